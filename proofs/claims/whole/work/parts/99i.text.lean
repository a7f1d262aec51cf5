/-! A text is read: the reference. -/
def tsF : List (Nat × Int) := [(1002, 0), (1003, 0), (1004, 0), (1005, 0), (1006, 0), (1007, 0), (1017, 0), (1018, 0), (1019, 0), (1020, 0), (1021, 0), (1022, 0), (1023, 0), (1024, 0), (1025, 0)]
/-- the new text so far -/
def nTx (σ : jS) (X : zX) (st : List Int) : Prop := rs σ 1023 0 = ((X.1.length : Nat) : Int) ∧ rs σ 1024 0 = ((X.2.2.length : Nat) : Int) ∧ rs σ 1025 0 = ((st.length : Nat) : Int) ∧ (∀ k : Nat, k < X.1.length → ra σ 1017 0 ((k : Nat) : Int) = X.1.getD k (-1)) ∧ (∀ g : Nat, g < X.2.2.length → ra σ 1018 0 ((g : Nat) : Int) = (X.2.2.getD g (0, [])).1 ∧ ra σ 1019 0 ((g : Nat) : Int) = (((X.2.2.getD g (0, [])).2.length : Nat) : Int) - 1 ∧ ∀ i : Nat, i < (X.2.2.getD g (0, [])).2.length → rwN σ (5 * ((g : Nat) : Int) + ((i : Nat) : Int)) ((X.2.2.getD g (0, [])).2.getD i [])) ∧ ∀ i : Nat, i < st.length → ra σ 1022 0 (((st.length : Nat) : Int) - 1 - ((i : Nat) : Int)) = st.getD i 0
section ZTy
variable {n : Nat} {σ0 σ σ1 : jS} {D : List Int} {a : Nat} {X : zX} {st : List Int}
theorem nTx.sq {l : List (Nat × Int)} (h : nTx σ X st) (e : sq l σ σ1) (hl : (([(1017, 0), (1018, 0), (1019, 0), (1020, 0), (1021, 0), (1022, 0), (1023, 0), (1024, 0), (1025, 0)] : List (Nat × Int)).all (fun p => !l.contains p)) = true) : nTx σ1 X st := by
  have hm : ∀ p, p ∈ ([(1017, 0), (1018, 0), (1019, 0), (1020, 0), (1021, 0), (1022, 0), (1023, 0), (1024, 0), (1025, 0)] : List (Nat × Int)) → l.contains p = false := fun p hp => by
    have := List.all_eq_true.mp hl p hp
    simpa using this
  obtain ⟨h1, h2, h3, h4, h5, h6⟩ := h
  refine ⟨by rw [e.nrs 1023 0 (hm _ (by decide))]; exact h1, by rw [e.nrs 1024 0 (hm _ (by decide))]; exact h2, by rw [e.nrs 1025 0 (hm _ (by decide))]; exact h3, fun k hk => by rw [e.nra 1017 0 _ (hm _ (by decide))]; exact h4 k hk, fun g hg => ?_, fun i hi => by rw [e.nra 1022 0 _ (hm _ (by decide))]; exact h6 i hi⟩
  obtain ⟨a1, a2, a3⟩ := h5 g hg
  refine ⟨by rw [e.nra 1018 0 _ (hm _ (by decide))]; exact a1, by rw [e.nra 1019 0 _ (hm _ (by decide))]; exact a2, fun i hi => (a3 i hi).sq e ?_⟩
  rw [hm (1020, 0) (by decide), hm (1021, 0) (by decide)]
  rfl
theorem t_openScope {Q : Int → jS → Prop} (hn : 2 ≤ n) (hm : mln σ) (hD : mTp σ D) (h2 : rs σ 1002 0 = ((a : Nat) : Int)) (h3 : rs σ 1003 0 = -1) (hN : nTx σ X st) (hX8 : X.1.length ≤ 8) (h6 : st.length ≤ 6)
    (hq0 : (¬ tpN D a = 123 ∨ X.1.length = 8 ∨ 5 < st.length) → ∀ σ', sq tsF σ σ' → rs σ' 1002 0 = ((a : Nat) : Int) → rs σ' 1003 0 = ((a : Nat) : Int) → Q 0 σ')
    (hq1 : tpN D a = 123 → ¬ (X.1.length = 8 ∨ 5 < st.length) → ∀ σ', sq tsF σ σ' → rs σ' 1002 0 = ((a + 1 : Nat) : Int) → rs σ' 1003 0 = -1 → nTx σ' (X.1 ++ [st.headD (-1)], X.2.1 ++ [((st.length : Nat) : Int)], X.2.2) (((X.1.length : Nat) : Int) :: st) → Q 1 σ') : TrI n i_Model_openScope [jo 1 0] σ Q := by
  have hD800 := hD.2.1
  have l17 := mln_at hm 1017 8 (by decide)
  have l22 := mln_at hm 1022 6 (by decide)
  have hN0 := hN
  obtain ⟨t1, t2, t3, t4, t5, t6⟩ := hN
  have fail : (¬ tpN D a = 123 ∨ X.1.length = 8 ∨ 5 < st.length) → TrI (n - 1) i_Model_fails [jo 1 0, ji ((a : Nat) : Int)] σ (fun zr6 zs5 => (zr6 = 0 ∨ zr6 = 1) ∧ Q zr6 zs5) := fun w => by
    refine wp_Model_fails ⟨by omega, fun s4 e4 => ⟨Or.inl rfl, ?_⟩⟩
    have f4 : sq [(1003, 0)] σ s4 := by rw [e4]; exact (sq.rf _ σ).pws 1003 0 _ (by decide)
    exact hq0 w s4 (f4.mo (by decide)) (by rw [f4.nrs 1002 0 (by decide)]; exact h2) (by rw [e4, rs_ws, if_pos ⟨rfl, rfl⟩])
  -- behind the sign {
  have fin : ∀ (s12 s18 : jS), tpN D a = 123 → ¬ (X.1.length = 8 ∨ 5 < st.length) → sq [(1002, 0)] σ s12 → rs s12 1002 0 = ((a + 1 : Nat) : Int) → s18 = wa s12 1017 0 (rs s12 1023 0) (st.headD (-1)) → 0 ≤ rl s18 1022 0 ∧ 0 ≤ rs s18 1025 0 ∧ rs s18 1025 0 < rl s18 1022 0 ∧ (∀ zs22, zs22 = wa s18 1022 0 (rs s18 1025 0) (rs s18 1023 0) → i32 ((rs zs22 1023 0) + 1) ∧ (∀ zs26, zs26 = ws zs22 1023 0 ((rs zs22 1023 0) + 1) → i32 ((rs zs26 1025 0) + 1) ∧ (∀ zs28, zs28 = ws zs26 1025 0 ((rs zs26 1025 0) + 1) → Q 1 zs28))) := by
    intro s12 s18 w1 w2 f12 r12 e18
    have w8 : ¬ X.1.length = 8 := fun w => w2 (Or.inl w)
    have w5 : ¬ 5 < st.length := fun w => w2 (Or.inr w)
    rw [f12.nrs 1023 0 (by decide), t1] at e18
    have f18 : sq [(1017, 0)] s12 s18 := by rw [e18]; exact (sq.rf _ s12).pwa 1017 0 _ _ (by decide)
    have r18 : ∀ j : Int, ra s18 1017 0 j = if j = ((X.1.length : Nat) : Int) then st.headD (-1) else ra s12 1017 0 j := fun j => by
      rw [e18]
      unfold wa
      rw [raf_wA, if_pos ⟨rfl, rfl⟩]
      rfl
    clear e18
    rw [f18.nrl 1022 0, f12.nrl 1022 0, l22, f18.nrs 1025 0 (by decide), f12.nrs 1025 0 (by decide), t3, f18.nrs 1023 0 (by decide), f12.nrs 1023 0 (by decide), t1]
    refine ⟨by omega, by omega, by omega, fun s22 e22 => ?_⟩
    have f22 : sq [(1022, 0)] s18 s22 := by rw [e22]; exact (sq.rf _ s18).pwa 1022 0 _ _ (by decide)
    have r22 : ∀ j : Int, ra s22 1022 0 j = if j = ((st.length : Nat) : Int) then ((X.1.length : Nat) : Int) else ra s18 1022 0 j := fun j => by
      rw [e22]
      unfold wa
      rw [raf_wA, if_pos ⟨rfl, rfl⟩]
      rfl
    clear e22
    rw [f22.nrs 1023 0 (by decide), f18.nrs 1023 0 (by decide), f12.nrs 1023 0 (by decide), t1]
    refine ⟨⟨by omega, by omega⟩, fun s26 e26 => ?_⟩
    have f26 : sq [(1023, 0)] s22 s26 := by rw [e26]; exact (sq.rf _ s22).pws 1023 0 _ (by decide)
    have r26 : rs s26 1023 0 = ((X.1.length : Nat) : Int) + 1 := by rw [e26, rs_ws, if_pos ⟨rfl, rfl⟩]
    clear e26
    rw [f26.nrs 1025 0 (by decide), f22.nrs 1025 0 (by decide), f18.nrs 1025 0 (by decide), f12.nrs 1025 0 (by decide), t3]
    refine ⟨⟨by omega, by omega⟩, fun s28 e28 => ?_⟩
    have f28 : sq [(1025, 0)] s26 s28 := by rw [e28]; exact (sq.rf _ s26).pws 1025 0 _ (by decide)
    have r28 : rs s28 1025 0 = ((st.length : Nat) : Int) + 1 := by rw [e28, rs_ws, if_pos ⟨rfl, rfl⟩]
    clear e28
    have F : sq [(1002, 0), (1017, 0), (1022, 0), (1023, 0), (1025, 0)] σ s28 := ((((f12.mo (by decide)).tr (f18.mo (by decide))).tr (f22.mo (by decide))).tr (f26.mo (by decide))).tr (f28.mo (by decide))
    refine hq1 w1 w2 s28 (F.mo (by decide)) ?_ (by rw [F.nrs 1003 0 (by decide)]; exact h3) ⟨?_, ?_, ?_, fun k hk => ?_, fun g hg => ?_, fun i hi => ?_⟩
    · rw [f28.nrs 1002 0 (by decide), f26.nrs 1002 0 (by decide), f22.nrs 1002 0 (by decide), f18.nrs 1002 0 (by decide)]; exact r12
    · rw [f28.nrs 1023 0 (by decide), r26, gd_len]; omega
    · rw [F.nrs 1024 0 (by decide)]; exact t2
    · rw [r28, List.length_cons]; omega
    · have hk' : k < X.1.length + 1 := by rw [← gd_len (x := st.headD (-1))]; exact hk
      rw [f28.nra 1017 0 _ (by decide), f26.nra 1017 0 _ (by decide), f22.nra 1017 0 _ (by decide), r18]
      show _ = (X.1 ++ [st.headD (-1)]).getD k (-1)
      by_cases q : k < X.1.length
      · rw [if_neg (by omega), gd_old q, f12.nra 1017 0 _ (by decide)]
        exact t4 k q
      · have ek : k = X.1.length := by omega
        subst ek
        rw [if_pos rfl, gd_new]
    · obtain ⟨b1, b2, b3⟩ := t5 g hg
      exact ⟨by rw [F.nra 1018 0 _ (by decide)]; exact b1, by rw [F.nra 1019 0 _ (by decide)]; exact b2, fun i hi => (b3 i hi).sq F (by decide)⟩
    · rw [List.length_cons] at hi ⊢
      rw [f28.nra 1022 0 _ (by decide), f26.nra 1022 0 _ (by decide), r22]
      cases i with
      | zero => rw [if_pos (by omega)]; rfl
      | succ i =>
        rw [if_neg (by omega), f18.nra 1022 0 _ (by decide), f12.nra 1022 0 _ (by decide)]
        have := t6 i (by omega)
        rw [show ((st.length + 1 : Nat) : Int) - 1 - ((i + 1 : Nat) : Int) = ((st.length : Nat) : Int) - 1 - ((i : Nat) : Int) by omega, this]
        rfl
  refine wp_Model_openScope ⟨by omega, by omega, t_here hm hD h2 ?_⟩
  by_cases q1 : tpN D a = 123
  · have hlt := tpN_lt (D := D) (a := a) (by rw [q1]; decide)
    rw [if_neg (fun w => w q1), t1, t3, h2]
    by_cases q8 : X.1.length = 8
    · rw [if_pos (by omega)]
      exact fail (Or.inr (Or.inl q8))
    · rw [if_neg (by omega)]
      by_cases q5 : 5 < st.length
      · rw [if_neg (by omega)]
        exact fail (Or.inr (Or.inr q5))
      · rw [if_pos (by omega)]
        have hw : ¬ (X.1.length = 8 ∨ 5 < st.length) := fun w => by rcases w with w | w; exact q8 w; exact q5 w
        refine ⟨⟨by omega, by omega⟩, fun s12 e12 => ?_⟩
        have f12 : sq [(1002, 0)] σ s12 := by rw [e12]; exact (sq.rf _ σ).pws 1002 0 _ (by decide)
        have r12 : rs s12 1002 0 = ((a + 1 : Nat) : Int) := by rw [e12, rs_ws, if_pos ⟨rfl, rfl⟩]; omega
        clear e12
        rw [f12.nrl 1017 0, l17, f12.nrs 1025 0 (by decide), t3]
        refine ⟨by omega, ?_⟩
        have e23 : rs s12 1023 0 = ((X.1.length : Nat) : Int) := by rw [f12.nrs 1023 0 (by decide)]; exact t1
        cases st with
        | nil =>
          rw [if_neg (fun w => w rfl), e23]
          refine ⟨by omega, by omega, fun s29 e29 => fin s12 s29 q1 hw f12 r12 (by rw [e23]; exact e29)⟩
        | cons s st' =>
          have hsl : ((s :: st').length : Int) = ((st'.length : Nat) : Int) + 1 := by rw [List.length_cons]; omega
          rw [if_pos (by omega), f12.nrl 1022 0, l22, e23]
          have etop : ra s12 1022 0 (((s :: st').length : Int) - 1) = s := by
            rw [f12.nra 1022 0 _ (by decide)]
            have := t6 0 (by rw [List.length_cons]; omega)
            rw [show ((s :: st').length : Int) - 1 = ((s :: st').length : Int) - 1 - ((0 : Nat) : Int) by omega]
            exact this
          refine ⟨by omega, ⟨by omega, by omega⟩, by omega, by omega, by omega, by omega, fun s18 e18 => fin s12 s18 q1 hw f12 r12 ?_⟩
          rw [e23]
          rw [etop] at e18
          exact e18
  · rw [if_pos q1, h2]
    exact fail (Or.inl q1)
theorem rdG_end {D : List Int} {a : Nat} (h : tpN D a = -1) : rdG D a = (false, a, []) := by
  have hT : rdT D a = (false, a, []) := by
    unfold rdT
    show rdS D (11 + 1) a [] [] = _
    unfold rdS
    rw [if_pos (by rw [h]; omega)]
  unfold rdG
  rw [hT, if_pos rfl]
set_option maxRecDepth 8000 in
theorem t_readScopes {Q : Int → jS → Prop} (hn : 7 ≤ n) (hm : mln σ) (hD : mTp σ D)
    (hq1 : (rdTx D).1 = true → ∀ σ', sq tsF σ σ' → rs σ' 1003 0 = -1 → nTx σ' (rdTx D).2.2 [] → Q 1 σ')
    (hq0 : (rdTx D).1 = false → ∀ σ', sq tsF σ σ' → rs σ' 1003 0 = (((rdTx D).2.1 : Nat) : Int) → Q 0 σ') : TrI n i_Model_readScopes [jo 1 0] σ Q := by
  have hD800 := hD.2.1
  have fails : ∀ (s2 : jS) (b : Nat) (Y : zX), sq tsF σ s2 → rs s2 1002 0 = ((b : Nat) : Int) → (false, b, Y) = rdTx D → ∀ s4, s4 = ws s2 1003 0 ((b : Nat) : Int) → Q 0 s4 := fun s2 b Y e2 v2 hS s4 e4 => by
    have f4 : sq [(1003, 0)] s2 s4 := by rw [e4]; exact (sq.rf _ s2).pws 1003 0 _ (by decide)
    exact hq0 (by rw [← hS]) s4 (e2.tr (f4.mo (by decide))) (by rw [← hS, e4, rs_ws, if_pos ⟨rfl, rfl⟩])
  have loop : ∀ (k a : Nat) (X : zX) (s : Int) (st : List Int) (s2 : jS), D.length ≤ a + k → a ≤ D.length → txI X → stkI X (s :: st) → st.length ≤ 5 → rdX D k a X (s :: st) = rdTx D → sq tsF σ s2 → rs s2 1002 0 = ((a : Nat) : Int) → rs s2 1003 0 = -1 → nTx s2 X (s :: st) → J n c_Model_readScopes (some .boolean) 28 [some (jo 1 0), none] [] s2 (qI Q) := by
    intro k
    induction k with
    | zero =>
      intro a X s st s2 hk ha hX hs h5 hS e2 v2 v3 hN
      have hm2 := hm.sq e2
      have ea : tpN D a = -1 := by
        unfold tpN
        rw [List.getElem?_eq_none (by omega)]
        rfl
      have hS2 : (false, a, X) = rdTx D := hS
      have hGe := rdG_end ea
      have hX24 := hX.2.2.1
      have etop := hN.2.2.2.2.2 0 (by rw [List.length_cons]; omega)
      have hl3 := hN.2.2.1
      rw [List.length_cons] at hl3 etop
      refine wp_Model_readScopes_28 ⟨by omega, ?_⟩
      rw [hl3, if_neg (by omega)]
      refine ⟨by omega, t_here hm2 (hD.sq e2 (by decide)) v2 ?_⟩
      rw [if_pos (by rw [ea]; decide), if_pos (by rw [ea]; decide)]
      refine t_readGiven (D := D) (a := a) (g := X.2.2.length) (s := s) (dp := ((st.length + 1 : Nat) : Int)) (by omega) hm2 (hD.sq e2 (by decide)) ha v2 v3 hN.2.1 hX24 hl3 (by omega) (by omega) (by rw [show ((st.length + 1 : Nat) : Int) - 1 = ((st.length + 1 : Nat) : Int) - 1 - ((0 : Nat) : Int) by omega]; exact etop) (fun q s3 f3 w2 w3 => ?_) (fun q w s3 f3 w2 w3 => ?_) (fun q w => ?_)
      · rw [if_neg (fun w => w rfl)]
        exact hq0 (by rw [← hS2]) s3 (e2.tr (f3.mo (by decide))) (by rw [← hS2]; exact w3)
      · rw [if_neg (fun w => w rfl)]
        rw [hGe] at w3
        exact hq0 (by rw [← hS2]) s3 (e2.tr (f3.mo (by decide))) (by rw [← hS2]; exact w3)
      · rw [hGe] at w
        cases w
    | succ k ih =>
      intro a X s st s2 hk ha hX hs h5 hS e2 v2 v3 hN
      have hm2 := hm.sq e2
      have hX24 := hX.2.2.1
      have etop := hN.2.2.2.2.2 0 (by rw [List.length_cons]; omega)
      have hl3 := hN.2.2.1
      rw [List.length_cons] at hl3 etop
      unfold rdX at hS
      refine wp_Model_readScopes_28 ⟨by omega, ?_⟩
      rw [hl3, if_neg (by omega)]
      refine ⟨by omega, t_here hm2 (hD.sq e2 (by decide)) v2 ?_⟩
      by_cases q123 : tpN D a = 123
      · rw [if_pos q123] at hS
        have hlt := tpN_lt (D := D) (a := a) (by rw [q123]; decide)
        rw [if_pos (by rw [q123]; decide), if_neg (fun w => w q123)]
        refine t_openScope (D := D) (a := a) (X := X) (st := s :: st) (by omega) hm2 (hD.sq e2 (by decide)) v2 v3 hN hX.2.1 (by rw [List.length_cons]; omega) (fun w s3 f3 w2 w3 => ?_) (fun w1 w s3 f3 w2 w3 hN3 => ?_)
        · rw [if_neg (fun w => w rfl)]
          have w' : X.1.length = 8 ∨ 5 < (s :: st).length := by
            rcases w with w | w
            · exact absurd q123 w
            · exact w
          rw [if_pos w'] at hS
          exact hq0 (by rw [← hS]) s3 (e2.tr (f3.mo (by decide))) (by rw [← hS]; exact w3)
        · rw [if_neg w] at hS
          rw [if_pos (by decide)]
          have h5' : ¬ 5 < (s :: st).length := fun v => w (Or.inr v)
          obtain ⟨o1, o2⟩ := txI_open hX hs (fun v => w (Or.inl v)) (by omega)
          exact ih (a + 1) _ _ _ s3 (by omega) (by omega) o1 o2 (by omega) hS (e2.tr (f3.mo (by decide))) w2 w3 hN3
      · rw [if_neg q123] at hS
        dsimp only at hS
        by_cases q125 : tpN D a = 125
        · rw [if_pos q125] at hS
          have hlt := tpN_lt (D := D) (a := a) (by rw [q125]; decide)
          rw [if_neg (fun w => w q125), v2]
          refine ⟨⟨by omega, by omega⟩, fun s13 e13 => ?_⟩
          have f13 : sq [(1002, 0)] s2 s13 := by rw [e13]; exact (sq.rf _ s2).pws 1002 0 _ (by decide)
          have r13 : rs s13 1002 0 = ((a + 1 : Nat) : Int) := by rw [e13, rs_ws, if_pos ⟨rfl, rfl⟩]; omega
          clear e13
          rw [f13.nrs 1025 0 (by decide), hl3]
          refine ⟨⟨by omega, by omega⟩, fun s15 e15 => ?_⟩
          have f15 : sq [(1025, 0)] s13 s15 := by rw [e15]; exact (sq.rf _ s13).pws 1025 0 _ (by decide)
          have r15 : rs s15 1025 0 = ((st.length : Nat) : Int) := by rw [e15, rs_ws, if_pos ⟨rfl, rfl⟩]; omega
          clear e15
          have F : sq [(1002, 0), (1025, 0)] s2 s15 := (f13.mo (by decide)).tr (f15.mo (by decide))
          have E : sq tsF σ s15 := e2.tr (F.mo (by decide))
          have x2 : rs s15 1002 0 = ((a + 1 : Nat) : Int) := by rw [f15.nrs 1002 0 (by decide)]; exact r13
          have x3 : rs s15 1003 0 = -1 := by rw [F.nrs 1003 0 (by decide)]; exact v3
          have hN15 : nTx s15 X st := by
            obtain ⟨t1, t2, t3, t4, t5, t6⟩ := hN
            refine ⟨by rw [F.nrs 1023 0 (by decide)]; exact t1, by rw [F.nrs 1024 0 (by decide)]; exact t2, r15, fun k hk => by rw [F.nra 1017 0 _ (by decide)]; exact t4 k hk, fun g hg => ?_, fun i hi => ?_⟩
            · obtain ⟨b1, b2, b3⟩ := t5 g hg
              exact ⟨by rw [F.nra 1018 0 _ (by decide)]; exact b1, by rw [F.nra 1019 0 _ (by decide)]; exact b2, fun i hi => (b3 i hi).sq F (by decide)⟩
            · have := t6 (i + 1) (by rw [List.length_cons]; omega)
              rw [List.length_cons] at this
              rw [F.nra 1022 0 _ (by decide), show ((st.length : Nat) : Int) - 1 - ((i : Nat) : Int) = ((st.length + 1 : Nat) : Int) - 1 - ((i + 1 : Nat) : Int) by omega, this]
              rfl
          cases st with
          | nil =>
            dsimp only at hS
            refine wp_Model_readScopes_28 ⟨by omega, ?_⟩
            rw [r15, if_pos (by show ((0 : Nat) : Int) ≤ 0; omega), x2, E.nrs 1001 0 (by decide), hD.1]
            by_cases qe : a + 1 = D.length
            · rw [if_pos (by omega)]
              rw [decide_eq_true qe] at hS
              rw [← hS] at hq1
              exact hq1 rfl s15 E x3 hN15
            · rw [if_neg (by omega)]
              rw [decide_eq_false qe] at hS
              refine ⟨by omega, wp_Model_fails ⟨by omega, fun s4 e4 => ?_⟩⟩
              rw [if_pos rfl]
              exact fails s15 (a + 1) X E x2 hS s4 e4
          | cons s' st2 =>
            dsimp only at hS
            rw [List.length_cons] at h5
            exact ih (a + 1) X s' st2 s15 (by omega) (by omega) hX hs.2 (by omega) hS E x2 x3 hN15
        · rw [if_neg q125] at hS
          rw [if_pos q125, if_pos q123]
          refine t_readGiven (D := D) (a := a) (g := X.2.2.length) (s := s) (dp := ((st.length + 1 : Nat) : Int)) (by omega) hm2 (hD.sq e2 (by decide)) ha v2 v3 hN.2.1 hX24 hl3 (by omega) (by omega) (by rw [show ((st.length + 1 : Nat) : Int) - 1 = ((st.length + 1 : Nat) : Int) - 1 - ((0 : Nat) : Int) by omega]; exact etop) (fun q s3 f3 w2 w3 => ?_) (fun q w s3 f3 w2 w3 => ?_) (fun q w s3 f3 w2 w3 w4 w5 w6 w7 => ?_)
          · rw [if_pos q] at hS
            rw [if_neg (fun w => w rfl)]
            exact hq0 (by rw [← hS]) s3 (e2.tr (f3.mo (by decide))) (by rw [← hS]; exact w3)
          · rw [if_neg q, if_pos w] at hS
            rw [if_neg (fun w => w rfl)]
            exact hq0 (by rw [← hS]) s3 (e2.tr (f3.mo (by decide))) (by rw [← hS]; exact w3)
          · rw [if_neg q, if_neg (by rw [w]; exact fun v => by cases v)] at hS
            have hG := rdG_ok (D := D) (a := a) ha
            obtain ⟨g1, g2, g3⟩ := hG.2 w
            obtain ⟨o1, o2⟩ := txI_given hX hs q g2 g3
            rw [if_pos (by decide)]
            refine ih _ _ s st s3 (by omega) hG.1 o1 o2 h5 hS (e2.tr (f3.mo (by decide))) w2 w3 ?_
            obtain ⟨t1, t2, t3, t4, t5, t6⟩ := hN
            refine ⟨by rw [f3.nrs 1023 0 (by decide)]; exact t1, by rw [w4, gd_len]; omega, by rw [f3.nrs 1025 0 (by decide)]; exact t3, fun k hk => by rw [f3.nra 1017 0 _ (by decide)]; exact t4 k hk, fun g hg => ?_, fun i hi => by rw [f3.nra 1022 0 _ (by decide)]; exact t6 i hi⟩
            have hg' : g < X.2.2.length + 1 := by rw [← gd_len (x := (s, (rdG D a).2.2))]; exact hg
            show ra s3 1018 0 ((g : Nat) : Int) = ((X.2.2 ++ [(s, (rdG D a).2.2)]).getD g (0, [])).1 ∧ ra s3 1019 0 ((g : Nat) : Int) = ((((X.2.2 ++ [(s, (rdG D a).2.2)]).getD g (0, [])).2.length : Nat) : Int) - 1 ∧ ∀ i : Nat, i < ((X.2.2 ++ [(s, (rdG D a).2.2)]).getD g (0, [])).2.length → rwN s3 (5 * ((g : Nat) : Int) + ((i : Nat) : Int)) (((X.2.2 ++ [(s, (rdG D a).2.2)]).getD g (0, [])).2.getD i [])
            by_cases qg : g < X.2.2.length
            · rw [gd_old qg]
              obtain ⟨b1, b2, b3⟩ := t5 g qg
              obtain ⟨c1, c2⟩ := w6 ((g : Nat) : Int) (by omega)
              refine ⟨by rw [c1]; exact b1, by rw [c2]; exact b2, fun i hi => ?_⟩
              have hGm : X.2.2.getD g (0, []) ∈ X.2.2 := by
                rw [List.getD_eq_getElem?_getD, List.getElem?_eq_getElem qg]
                exact List.getElem_mem qg
              obtain ⟨-, ⟨-, d2⟩, d3⟩ := hX.2.2.2.2 _ hGm
              have hrr : ((X.2.2.getD g (0, [])).2.getD i []).length ≤ 12 := by
                rw [List.getD_eq_getElem?_getD, List.getElem?_eq_getElem hi]
                exact (d3 _ (List.getElem_mem hi)).2.2
              exact w7 _ _ (by omega) hrr (b3 i hi)
            · have eg : g = X.2.2.length := by omega
              subst eg
              rw [gd_new]
              exact w5
  refine wp_Model_readScopes ⟨by omega, by omega, wp_Model_beginText ⟨by omega, fun s2 e2 s3 e3 s5 e5 s6 e6 s7 e7 => ?_⟩⟩
  have f7 : sq [(1002, 0), (1003, 0), (1023, 0), (1024, 0), (1025, 0)] σ s7 := by rw [e7, e6, e5, e3, e2]; exact (((((sq.rf _ σ).pws 1002 0 _ (by decide)).pws 1003 0 _ (by decide)).pws 1023 0 _ (by decide)).pws 1024 0 _ (by decide)).pws 1025 0 _ (by decide)
  have r2 : rs s7 1002 0 = ((0 : Nat) : Int) := by rw [e7, e6, e5, e3, e2]; rfl
  have r3 : rs s7 1003 0 = -1 := by rw [e7, e6, e5, e3]; rfl
  have r23 : rs s7 1023 0 = 0 := by rw [e7, e6, e5]; rfl
  have r24 : rs s7 1024 0 = 0 := by rw [e7, e6]; rfl
  have r25 : rs s7 1025 0 = 0 := by rw [e7]; rfl
  clear e2 e3 e5 e6 e7
  have hN7 : nTx s7 ([], [], []) [] := ⟨r23, r24, r25, fun k hk => absurd hk (by simp), fun g hg => absurd hg (by simp), fun i hi => absurd hi (by simp)⟩
  have hS : rdX D (799 + 1) 0 ([], [], []) [] = rdTx D := rfl
  unfold rdX at hS
  refine t_openScope (D := D) (a := 0) (X := ([], [], [])) (st := []) (by omega) (hm.sq f7) (hD.sq f7 (by decide)) r2 r3 hN7 (by show 0 ≤ 8; omega) (by show 0 ≤ 6; omega) (fun w s8 f8 w2 w3 => ?_) (fun w1 w s8 f8 w2 w3 hN8 => ?_)
  · rw [if_neg (fun w => w rfl)]
    have w' : ¬ tpN D 0 = 123 := by
      rcases w with w | w | w
      · exact w
      · exact absurd w (by show ¬ (0 : Nat) = 8; omega)
      · exact absurd w (by show ¬ 5 < (0 : Nat); omega)
    rw [if_neg w'] at hS
    exact hq0 (by rw [← hS]) s8 ((f7.mo (by decide)).tr f8) (by rw [← hS]; exact w3)
  · rw [if_pos w1, if_neg w] at hS
    have hlt := tpN_lt (D := D) (a := 0) (by rw [w1]; decide)
    rw [if_pos (by decide)]
    obtain ⟨o1, o2⟩ := txI_open txI_nil (st := []) trivial (by show ¬ (0 : Nat) = 8; omega) (by show 0 ≤ 5; omega)
    exact loop 799 1 _ _ _ s8 (by omega) (by omega) o1 o2 (by show 0 ≤ 5; omega) hS ((f7.mo (by decide)).tr f8) w2 w3 hN8
end ZTy
