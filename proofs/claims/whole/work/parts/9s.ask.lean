/-! A goal is asked: the reference, as a whole. -/
def tkF : List (Nat × Int) := [(1001, 0), (1048, 0), (1049, 0), (1050, 0), (1051, 0), (1112, 0), (1125, 0), (1126, 0), (1127, 0), (1128, 0), (1129, 0)] ++ (rtF ++ (aaF ++ ltF))
/-- a row that can be written -/
def rwG (r : List Int) : Prop := 1 ≤ r.length ∧ (r.length ≤ 100 → ∀ t, t ∈ r → -2600 ≤ t ∧ t < 104)
theorem cno_G {g : zH} {N : Int} {β : List (Int × Int)} {x : Int} (hz : zok g N) (hb : bok g N β) (ha : acy g N β) (x0 : 0 ≤ x) (x1 : x < N) : rwG (cno [] (ex g N β x)) := by
  refine ⟨?_, fun hl t ht => ?_⟩
  · rw [cno_len]
    have hT : Typ (ex g N β x) := (ex_sol hz hb ha x x0 x1).1
    cases h : ex g N β x with
    | nil => rw [h] at hT; cases hT
    | cons a l => rw [List.length_cons]; omega
  · rw [cno_len] at hl
    have a := cno_ge t ht
    have b := cno_lt (ex_lt hz hb ha x0 x1) t ht
    rw [List.length_nil] at a
    omega
theorem rowE_G {g : zH} {N : Int} {E : List (Int × Int)} {x : Int} (hz : zok g N) (h : ∃ β, rep g N β E) (x0 : 0 ≤ x) (x1 : x < N) : rwG (rowE g N E x) := by
  obtain ⟨β, hr⟩ := h
  rw [rowE_eq hz hr x0 x1]
  exact cno_G hz hr.1 hr.2.1 x0 x1
section ZAs
variable {n : Nat} {σ0 σ σ1 σ2 : jS} {T : zT} {M : zM} {D r : List Int} {k O U : Int} {P : zP} {f : Int → List Int}
theorem mMem_some (h : mMem σ M) {m : Nat} {z : zN} (hz : z ∈ memT M m) : z.2.2.2.2.2.2.2 ≠ none := by
  have hne : ¬ memT M m = [] := fun e => by rw [e] at hz; cases hz
  obtain ⟨h1, h2, -⟩ := mMem_root h hne
  have key : ∀ (t : List zN) (ns : List Int), nRs 8200 σ ns (t.map Sum.inl) → ∀ z, z ∈ t → z.2.2.2.2.2.2.2 ≠ none := by
    intro t
    induction t with
    | nil => intro ns _ z hz; cases hz
    | cons y t ih =>
      intro ns hn z hz
      cases ns with
      | nil => exact absurd hn (fun w => w)
      | cons a ns =>
        obtain ⟨c1, c2⟩ := hn
        rcases List.mem_cons.mp hz with w | w
        · rw [w]
          intro hnone
          obtain ⟨-, -, -, -, -, -, -, -, -, q9⟩ := c1
          rw [hnone] at q9
          have := q9.1
          omega
        · exact ih _ c2 z w
  exact key _ _ h2 z hz
theorem exp_knz (hM : ∀ m z, z ∈ memT M m → z.2.2.2.2.2.2.2 ≠ none) : ∀ {t : List zI}, (∀ z : zN, .inl z ∈ t → ∀ r, nRw z = some r → f (nGl z) = r) → expT M (t.map (kpt f)) = (expT M t).map (knz f) := by
  intro t
  induction t with
  | nil => intro _; rfl
  | cons y t ih =>
    intro h
    have ih := ih (fun z hz => h z (List.mem_cons_of_mem _ hz))
    rcases y with ⟨a, b, c, d, e, u, w, q⟩ | m
    · have e1 : expT M ((.inl (a, b, c, d, e, u, w, q) :: t).map (kpt f)) = (a, b, c, d, e, u, w, some (f w)) :: expT M (t.map (kpt f)) := rfl
      have e2 : expT M (.inl (a, b, c, d, e, u, w, q) :: t) = (a, b, c, d, e, u, w, q) :: expT M t := rfl
      rw [e1, e2, List.map_cons, ih]
      congr 1
      cases q with
      | none => rfl
      | some r =>
        have := h _ List.mem_cons_self r rfl
        have e3 : f w = r := this
        rw [e3]
        rfl
    · have e1 : expT M ((.inr m :: t).map (kpt f)) = memT M m ++ expT M (t.map (kpt f)) := rfl
      have e2 : expT M (.inr m :: t) = memT M m ++ expT M t := rfl
      rw [e1, e2, List.map_append, ih]
      congr 1
      have : ∀ z, z ∈ memT M m → knz f z = z := fun z hz => by
        have := hM m z hz
        rcases z with ⟨a, b, c, d, e, u, y, _ | r⟩
        · exact absurd rfl this
        · rfl
      exact ((List.map_congr_left this).trans (List.map_id' _)).symm
theorem isScope_q {Q : Int → jS → Prop} (hX : mTx σ T) (hn : 2 ≤ n) (h0 : ¬ (0 ≤ k ∧ k < tS T) → Q 0 σ) (h1 : 0 ≤ k ∧ k < tS T → Q 1 σ) : TrI n i_Model_isScope [jo 1 0, ji k] σ Q := by
  obtain ⟨p1, p2, p3, p4, p5, p6⟩ := hX
  have hS := p1.2.1
  have hS0 := p1.1
  refine wp_Model_isScope ⟨by omega, ?_⟩
  rw [p2]
  refine ⟨⟨by omega, by omega⟩, by omega, wp_Model_isIn ?_⟩
  by_cases q : k < 0
  · rw [if_pos q]; exact ⟨Or.inl rfl, h0 (by omega)⟩
  · rw [if_neg q]
    by_cases q2 : tS T - 1 < k
    · rw [if_pos q2]; exact ⟨Or.inl rfl, h0 (by omega)⟩
    · rw [if_neg q2]; exact ⟨Or.inr rfl, h1 (by omega)⟩
theorem sq_tk {l : List (Nat × Int)} (e : sq l σ σ1) (h : (l.all (fun p => tkF.contains p)) = true) : sq tkF σ σ1 := e.mo h
set_option maxRecDepth 16000 in
theorem t_ask {Q : Int → jS → Prop} (hn : 30 ≤ n) (hm : mln σ) (hX : mTx σ T) (hD : mTp σ D) (hMm : mMem σ M) (hO : rs σ 1015 0 = O) (hU : rs σ 1016 0 = U)
    (hW0 : 0 ≤ k ∧ k < tS T → rdW D = true → endE (askW (T, O, U, k, true) M (rdT D 0).2.2) = 0 → trK (askT (T, O, U, k, true) M (rdT D 0).2.2))
    (hq0 : (¬ (0 ≤ k ∧ k < tS T) ∨ rdW D = false) → ∀ σ', sq ((1001, 0) :: rtF) σ σ' → rs σ' 1003 0 = (if 0 ≤ k ∧ k < tS T then (((rdT D 0).2.1 : Nat) : Int) else -1) → rs σ' 1001 0 = 0 → Q (-2) σ')
    (hq1 : 0 ≤ k ∧ k < tS T → rdW D = true → ∀ σ', sq tkF σ σ' → rs σ' 1003 0 = -1 → rs σ' 1001 0 = 0 → rs σ' 1051 0 = 1 → rs σ' 1050 0 = k → rs σ' 1049 0 = (((rdT D 0).2.2.length : Nat) : Int) → (∀ i : Nat, i < (rdT D 0).2.2.length → ra σ' 1048 0 ((i : Nat) : Int) = (rdT D 0).2.2.getD i 0) → mMem σ' (sM (askW (T, O, U, k, true) M (rdT D 0).2.2).1) → (∀ i : Nat, i < 9 → ra σ' 1112 0 ((i : Nat) : Int) = (tlW (endE (askW (T, O, U, k, true) M (rdT D 0).2.2)) (askW (T, O, U, k, true) M (rdT D 0).2.2).1 (askT (T, O, U, k, true) M (rdT D 0).2.2)).getD i 0) → mTr σ' (askT (T, O, U, k, true) M (rdT D 0).2.2) → (endE (askW (T, O, U, k, true) M (rdT D 0).2.2) = 0 → mAn σ' (rowE (hG (askW (T, O, U, k, true) M (rdT D 0).2.2).1) (hN (askW (T, O, U, k, true) M (rdT D 0).2.2).1) (hE (askW (T, O, U, k, true) M (rdT D 0).2.2).1) (x00 (rdT D 0).2.2))) → ((askW (T, O, U, k, true) M (rdT D 0).2.2).2.1 = 2 → rs σ' 1128 0 = (askW (T, O, U, k, true) M (rdT D 0).2.2).2.2.2.1 ∧ rs σ' 1129 0 = (askW (T, O, U, k, true) M (rdT D 0).2.2).2.2.2.2.1 ∧ mAn σ' (askW (T, O, U, k, true) M (rdT D 0).2.2).2.2.2.2.2 ∧ (askW (T, O, U, k, true) M (rdT D 0).2.2).2.2.2.2.2.length ≤ 100 ∧ rwG (askW (T, O, U, k, true) M (rdT D 0).2.2).2.2.2.2.2) → (¬ endE (askW (T, O, U, k, true) M (rdT D 0).2.2) = 0 → ¬ (askW (T, O, U, k, true) M (rdT D 0).2.2).2.1 = 2 → rs σ' 1127 0 = 0) → Q (endE (askW (T, O, U, k, true) M (rdT D 0).2.2)) σ') : TrI n i_Model_ask [jo 1 0, ji k] σ Q := by
  have l04 := mln_at hm 1004 12 (by decide)
  have l48 := mln_at hm 1048 12 (by decide)
  have fin0 : ∀ s7, sq rtF σ s7 → (¬ (0 ≤ k ∧ k < tS T) ∨ rdW D = false) → rs s7 1003 0 = (if 0 ≤ k ∧ k < tS T then (((rdT D 0).2.1 : Nat) : Int) else -1) → J n c_Model_ask (some .int) 34 [some (jo 1 0), some (ji k), some (ji 0), none] [] s7 (qI Q) := by
    intro s7 e7 hw v3
    refine wp_Model_ask_34 ⟨by omega, fun s2 e2 => ?_⟩
    have f2 : sq [(1001, 0)] s7 s2 := by rw [e2]; exact (sq.rf _ s7).pws 1001 0 _ (by decide)
    have r2 : rs s2 1001 0 = 0 := by rw [e2, rs_ws, if_pos ⟨rfl, rfl⟩]
    rw [if_neg (by decide)]
    exact hq0 hw s2 ((e7.mo (by decide)).tr (f2.mo (by decide))) (by rw [f2.nrs 1003 0 (by decide)]; exact v3) r2
  refine wp_Model_ask ⟨by omega, by omega, isScope_q hX (by omega) (fun qk => ?_) (fun qk => ?_)⟩
  · rw [if_pos rfl]
    refine isScope_q hX (by omega) (fun _ => ?_) (fun w => absurd w qk)
    rw [if_neg (by decide)]
    intro s7 e7
    have f7 : sq [(1003, 0)] σ s7 := by rw [e7]; exact (sq.rf _ σ).pws 1003 0 _ (by decide)
    exact fin0 s7 (f7.mo (by decide)) (Or.inl qk) (by rw [e7, rs_ws, if_pos ⟨rfl, rfl⟩, if_neg qk])
  · rw [if_neg (by decide)]
    refine t_readWhole (by omega) hm hD (fun hx s9 f9 v3 v6 v4 => ?_) (fun hx s9 f9 v3 => ?_)
    · rw [if_neg (by decide)]
      refine isScope_q (hX.sq f9 (by decide)) (by omega) (fun w => absurd qk w) (fun _ => ?_)
      rw [if_pos (by decide)]
      have hW0 := hW0 qk hx
      have hq1 := hq1 qk hx
      have hrw := (rdW_rw hx).1
      have h12 := hrw.2.2
      revert hq1 hW0 hrw h12 v6 v4
      generalize (rdT D 0).2.2 = r
      intro v6 v4 hW0 hq1 hrw h12
      refine wp_Model_ask_34 ⟨by omega, fun s2 e2 => ?_⟩
      have f2 : sq [(1001, 0)] s9 s2 := by rw [e2]; exact (sq.rf _ s9).pws 1001 0 _ (by decide)
      have r2 : rs s2 1001 0 = 0 := by rw [e2, rs_ws, if_pos ⟨rfl, rfl⟩]
      clear e2
      rw [if_pos (by decide)]
      intro s3 e3 s4 e4
      have f3 : sq [(1050, 0)] s2 s3 := by rw [e3]; exact (sq.rf _ s2).pws 1050 0 _ (by decide)
      have r3 : rs s3 1050 0 = k := by rw [e3, rs_ws, if_pos ⟨rfl, rfl⟩]
      clear e3
      have f4 : sq [(1049, 0)] s3 s4 := by rw [e4]; exact (sq.rf _ s3).pws 1049 0 _ (by decide)
      have r4 : rs s4 1049 0 = ((r.length : Nat) : Int) := by rw [e4, rs_ws, if_pos ⟨rfl, rfl⟩, f3.nrs 1006 0 (by decide), f2.nrs 1006 0 (by decide)]; exact v6
      clear e4
      have f94 : sq [(1001, 0), (1050, 0), (1049, 0)] s9 s4 := ((f2.mo (by decide)).tr (f3.mo (by decide))).tr (f4.mo (by decide))
      rw [f94.nrl 1004 0, f94.nrl 1048 0, f9.nrl 1004 0, f9.nrl 1048 0, l04, l48, f94.nrs 1006 0 (by decide), v6]
      refine ⟨by omega, by omega, by omega, t_copy rfl rfl (by decide) (by decide) (by omega) (by rw [f94.nrl 1004 0, f9.nrl 1004 0, l04]; omega) (by omega) (by rw [f94.nrl 1048 0, f9.nrl 1048 0, l48]; omega) (by rw [f94.nrl 1004 0, f9.nrl 1004 0, l04]; omega) (by rw [f94.nrl 1048 0, f9.nrl 1048 0, l48]; omega) (fun s8 f8 r8 s10 e10 => ?_)⟩
      have f10 : sq [(1051, 0)] s8 s10 := by rw [e10]; exact (sq.rf _ s8).pws 1051 0 _ (by decide)
      have r10 : rs s10 1051 0 = 1 := by rw [e10, rs_ws, if_pos ⟨rfl, rfl⟩]
      clear e10
      have f010 : sq ((1001, 0) :: (1050, 0) :: (1049, 0) :: (1048, 0) :: (1051, 0) :: rtF) σ s10 := (((f9.mo (by decide)).tr (f94.mo (by decide))).tr (f8.mo (by decide))).tr (f10.mo (by decide))
      have g49 : rs s10 1049 0 = ((r.length : Nat) : Int) := by rw [f10.nrs 1049 0 (by decide), f8.nrs 1049 0 (by decide)]; exact r4
      have g50 : rs s10 1050 0 = k := by rw [f10.nrs 1050 0 (by decide), f8.nrs 1050 0 (by decide), f4.nrs 1050 0 (by decide)]; exact r3
      have g48 : ∀ i : Nat, i < r.length → ra s10 1048 0 ((i : Nat) : Int) = r.getD i 0 := fun i hi => by
        rw [f10.nra 1048 0 _ (by decide), r8, if_pos (by omega), show (0 : Int) + (((i : Nat) : Int) - 0) = ((i : Nat) : Int) by omega, f94.nra 1004 0 _ (by decide)]
        exact v4 i hi
      have g03 : rs s10 1003 0 = -1 := by rw [f10.nrs 1003 0 (by decide), f8.nrs 1003 0 (by decide), f94.nrs 1003 0 (by decide)]; exact v3
      have g01 : rs s10 1001 0 = 0 := by rw [f10.nrs 1001 0 (by decide), f8.nrs 1001 0 (by decide), f4.nrs 1001 0 (by decide), f3.nrs 1001 0 (by decide)]; exact r2
      have hMm10 : mMem s10 M := mMem.sq hMm f010 (by decide)
      have hT := hX.1
      have o := s00_ok (M := M) (lA_lok hrw) hrw
      obtain ⟨o1, o2, o3, ⟨o4, o5⟩, o6, o7⟩ := o
      have hres := ask_R (P := (T, O, U, k, true)) hT 21 [] (s00 r M) (x00 r) o2 o4 o5
      -- behind the asking
      have fin : ∀ (s11 : jS), sq aaF s10 s11 → ∀ s20, sq ([(1125, 0), (1126, 0), (1127, 0), (1128, 0), (1129, 0)] ++ ltF) s11 s20 → mMem s20 (sM (askW (T, O, U, k, true) M r).1) → (rs s20 1103 0 = sA (askW (T, O, U, k, true) M r).1 ∧ rs s20 1104 0 = sMt (askW (T, O, U, k, true) M r).1 ∧ rs s20 1105 0 = sC (askW (T, O, U, k, true) M r).1 ∧ rs s20 1106 0 = sTr (askW (T, O, U, k, true) M r).1 ∧ rs s20 1107 0 = sD (askW (T, O, U, k, true) M r).1) → mTr s20 (askT (T, O, U, k, true) M r) → (askT (T, O, U, k, true) M r = [] ∨ trK (askT (T, O, U, k, true) M r)) → (endE (askW (T, O, U, k, true) M r) = 0 → mAn s20 (rowE (hG (askW (T, O, U, k, true) M r).1) (hN (askW (T, O, U, k, true) M r).1) (hE (askW (T, O, U, k, true) M r).1) (x00 r))) → ((askW (T, O, U, k, true) M r).2.1 = 2 → rs s20 1128 0 = (askW (T, O, U, k, true) M r).2.2.2.1 ∧ rs s20 1129 0 = (askW (T, O, U, k, true) M r).2.2.2.2.1 ∧ mAn s20 (askW (T, O, U, k, true) M r).2.2.2.2.2 ∧ (askW (T, O, U, k, true) M r).2.2.2.2.2.length ≤ 100 ∧ rwG (askW (T, O, U, k, true) M r).2.2.2.2.2) → (¬ endE (askW (T, O, U, k, true) M r) = 0 → ¬ (askW (T, O, U, k, true) M r).2.1 = 2 → rs s20 1127 0 = 0) → J (n - 1) c_Model_layAsking none 80 [some (jo 1 0), some (ji (endE (askW (T, O, U, k, true) M r))), none, none] [] s20 (qV (fun zs13 => Q (endE (askW (T, O, U, k, true) M r)) zs13)) := by
        intro s11 e11 s20 e20 hM20 hv hT20 hW20 ha20 hb20 hc20
        have m20 : mln s20 := ((hm.sq f010).sq e11).sq e20
        refine t_lay80 (by omega) m20 hT20 hW20 hv (fun s21 f21 h21 => ?_)
        have et : sq tkF σ s21 := (((sq_tk f010 (by decide)).tr (sq_tk e11 (by decide))).tr (sq_tk e20 (by decide))).tr (sq_tk f21 (by decide))
        have k1021 : sq (aaF ++ ([(1112, 0), (1125, 0), (1126, 0), (1127, 0), (1128, 0), (1129, 0)] ++ ltF)) s10 s21 := ((e11.mo (by decide)).tr (e20.mo (by decide))).tr (f21.mo (by decide))
        refine hq1 s21 et ?_ ?_ ?_ ?_ ?_ ?_ (mMem.sq hM20 f21 (by decide)) h21 (hT20.sq f21 (by decide)) (fun w => (ha20 w).sq f21 (by decide)) (fun w => ?_) (fun w w2 => by rw [f21.nrs 1127 0 (by decide)]; exact hc20 w w2)
        · rw [k1021.nrs 1003 0 (by decide)]; exact g03
        · rw [k1021.nrs 1001 0 (by decide)]; exact g01
        · rw [k1021.nrs 1051 0 (by decide)]; exact r10
        · rw [k1021.nrs 1050 0 (by decide)]; exact g50
        · rw [k1021.nrs 1049 0 (by decide)]; exact g49
        · intro i hi
          rw [k1021.nra 1048 0 _ (by decide)]
          exact g48 i hi
        · obtain ⟨c1, c2, c3, c4⟩ := hb20 w
          exact ⟨by rw [f21.nrs 1128 0 (by decide)]; exact c1, by rw [f21.nrs 1129 0 (by decide)]; exact c2, c3.sq f21 (by decide), c4⟩
      refine t_askAll (P := (T, O, U, k, true)) (M := M) (r := r) (by omega) (hm.sq f010) (hX.sq f010 (by decide)) (by rw [f010.nrs 1015 0 (by decide)]; exact hO) (by rw [f010.nrs 1016 0 (by decide)]; exact hU) g50 qk rfl g49 g48 hrw hMm10 (fun q0 σa s11 ea hp e11 v11 => ?_) (fun q0 σa s11 ea hp e11 v11 => ?_)
      · obtain ⟨-, hB, ⟨b98, b01⟩, -, -, -, new, t1, t2, t3, t4⟩ := hp
        obtain ⟨d1, d2, d3, d4, d5, d6, d7, d8, d9⟩ := hB
        refine wp_Model_layAsking ⟨by omega, fun s2' e2' s3' e3' => ?_⟩
        have f2' : sq [(1126, 0)] s11 s2' := by rw [e2']; exact (sq.rf _ s11).pws 1126 0 _ (by decide)
        have r2' : rs s2' 1126 0 = 0 := by rw [e2', rs_ws, if_pos ⟨rfl, rfl⟩]
        clear e2'
        have f3' : sq [(1127, 0)] s2' s3' := by rw [e3']; exact (sq.rf _ s2').pws 1127 0 _ (by decide)
        have r3' : rs s3' 1127 0 = 0 := by rw [e3', rs_ws, if_pos ⟨rfl, rfl⟩]
        clear e3'
        have f23 : sq [(1126, 0), (1127, 0)] s11 s3' := (f2'.mo (by decide)).tr (f3'.mo (by decide))
        have hM3 : mMem s3' (sM (askW (T, O, U, k, true) M r).1) := mMem.sq d6 f23 (by decide)
        cases ht : (askW (T, O, U, k, true) M r).2.2.1 with
        | none =>
          have he : endE (askW (T, O, U, k, true) M r) = 1 := by unfold endE; rw [if_pos q0, ht]
          have hWn : askT (T, O, U, k, true) M r = [] := askT_no (Or.inr ht)
          dsimp only
          rw [if_pos (by decide)]
          refine wp_Model_layAsking_30 ?_
          rw [if_pos (by decide)]
          have := fin s11 e11 s3' (f23.mo (by decide)) hM3 ⟨by rw [f23.nrs 1103 0 (by decide)]; exact d4.1, by rw [f23.nrs 1104 0 (by decide)]; exact d4.2.1, by rw [f23.nrs 1105 0 (by decide)]; exact d4.2.2.1, by rw [f23.nrs 1106 0 (by decide)]; exact d4.2.2.2.1, by rw [f23.nrs 1107 0 (by decide)]; exact d4.2.2.2.2⟩ (by rw [hWn]; exact ⟨by rw [f3'.nrs 1126 0 (by decide)]; exact r2', fun i hi => absurd hi (by simp)⟩) (Or.inl hWn) (fun w => by rw [he] at w; exact absurd w (by decide)) (fun w => by rw [q0] at w; exact absurd w (by decide)) (fun _ _ => r3')
          rw [he] at this
          exact this
        | some t =>
          have he : endE (askW (T, O, U, k, true) M r) = 0 := endE_0.mpr ⟨q0, t, ht⟩
          dsimp only
          rw [if_neg (fun w => w rfl)]
          obtain ⟨⟨u1, u2⟩, u3, u4⟩ := t4 t ht
          have hIr := ask_I (P := (T, O, U, k, true)) hT 21 [] (s00 r M) (x00 r) o2 ⟨[], o1⟩ o4 o5 t ht
          obtain ⟨-, ist, iv1, iv2⟩ := hIr
          have ist2 : hN (s00 r M) ≤ hN (askW (T, O, U, k, true) M r).1 := ist.2.1
          have hzR : zok (hG (askW (T, O, U, k, true) M r).1) (hN (askW (T, O, U, k, true) M r).1) := (hres.2.2.2 t ht).1
          have hA200 : sA (askW (T, O, U, k, true) M r).1 ≤ 200 := hres.1.2.1
          have n0 := nRs_exp d6 (by omega) u2 iv1
          have eW := askT_yes q0 ht
          have ekz := exp_knz (M := sM (askW (T, O, U, k, true) M r).1) (f := rowE (hG (askW (T, O, U, k, true) M r).1) (hN (askW (T, O, U, k, true) M r).1) (hE (askW (T, O, U, k, true) M r).1)) (fun m z hz => mMem_some d6 hz) (t := t) (fun z hz rr hrr => ((iv2 z hz).2.2.2 rr hrr).2.1)
          have hmT3 : mT s3' (hG (askW (T, O, U, k, true) M r).1) (hN (askW (T, O, U, k, true) M r).1) (new ++ []) := t1.sq f23 (by decide)
          have n3 : nRs (rs s11 1064 0) s3' [rs s11 1102 0] ((expT (sM (askW (T, O, U, k, true) M r).1) t).map Sum.inl) := nRs_K (f23.ndK (by decide)) n0
          rw [f23.nrs 1102 0 (by decide)]
          refine ⟨by omega, t_layTree (W0 := expT (sM (askW (T, O, U, k, true) M r).1) t) (W := askT (T, O, U, k, true) M r) (f := rowE (hG (askW (T, O, U, k, true) M r).1) (hN (askW (T, O, U, k, true) M r).1) (hE (askW (T, O, U, k, true) M r).1)) (by omega) hmT3 t2.2.1 hM3 (by omega) n3 (eW.trans ekz) (hW0 he) (fun z hz hnone => ?_) (fun s5 f5 h5 => ?_)⟩
          · unfold expT at hz
            obtain ⟨i, hi, hz2⟩ := List.mem_flatMap.mp hz
            rcases i with w | m
            · have ew : z = w := by simpa using hz2
              rw [ew]
              obtain ⟨-, c2, c3, -⟩ := iv2 w hi
              exact ⟨c2, c3, rowE_eq hzR t2 c2 c3⟩
            · exact absurd hnone (mMem_some d6 hz2)
          · have T5 : mT s5 (hG (askW (T, O, U, k, true) M r).1) (hN (askW (T, O, U, k, true) M r).1) (new ++ []) := hmT3.sq f5 (by decide)
            have v5 : rs s5 1111 0 = x00 r := by rw [f5.nrs 1111 0 (by decide), f23.nrs 1111 0 (by decide)]; exact v11
            rw [v5]
            refine t_layAnswer (by omega) T5 t2.2.1 o4 (by omega) (fun s7 f7 h7 => ?_)
            have f57 : sq ([(1125, 0), (1126, 0), (1127, 0), (1128, 0), (1129, 0)] ++ ltF) s11 s7 := ((f23.mo (by decide)).tr (f5.mo (by decide))).tr (f7.mo (by decide))
            have erow := rowE_eq (x := x00 r) hzR t2 o4 (by omega)
            refine wp_Model_layAsking_30 ?_
            rw [if_pos (by decide)]
            have := fin s11 e11 s7 f57 (mMem.sq d6 f57 (by decide)) ⟨by rw [f57.nrs 1103 0 (by decide)]; exact d4.1, by rw [f57.nrs 1104 0 (by decide)]; exact d4.2.1, by rw [f57.nrs 1105 0 (by decide)]; exact d4.2.2.1, by rw [f57.nrs 1106 0 (by decide)]; exact d4.2.2.2.1, by rw [f57.nrs 1107 0 (by decide)]; exact d4.2.2.2.2⟩ (h5.sq f7 (by decide)) (Or.inr (hW0 he)) (fun _ => by rw [erow]; exact h7) (fun w => by rw [q0] at w; exact absurd w (by decide)) (fun w _ => absurd he w)
            rw [he] at this
            exact this
      · have he : endE (askW (T, O, U, k, true) M r) = (askW (T, O, U, k, true) M r).2.1 := by unfold endE; rw [if_neg q0]
        have hWn : askT (T, O, U, k, true) M r = [] := askT_no (Or.inl q0)
        obtain ⟨-, h99, d4, d6, h2⟩ := hp
        rw [← he] at q0 ⊢
        refine wp_Model_layAsking ⟨by omega, fun s2' e2' s3' e3' => ?_⟩
        have f2' : sq [(1126, 0)] s11 s2' := by rw [e2']; exact (sq.rf _ s11).pws 1126 0 _ (by decide)
        have r2' : rs s2' 1126 0 = 0 := by rw [e2', rs_ws, if_pos ⟨rfl, rfl⟩]
        clear e2'
        have f3' : sq [(1127, 0)] s2' s3' := by rw [e3']; exact (sq.rf _ s2').pws 1127 0 _ (by decide)
        have r3' : rs s3' 1127 0 = 0 := by rw [e3', rs_ws, if_pos ⟨rfl, rfl⟩]
        clear e3'
        have f23 : sq [(1126, 0), (1127, 0)] s11 s3' := (f2'.mo (by decide)).tr (f3'.mo (by decide))
        rw [if_pos q0]
        refine wp_Model_layAsking_30 ?_
        by_cases q2 : endE (askW (T, O, U, k, true) M r) = 2
        · rw [if_neg (fun w => w q2)]
          obtain ⟨g, N, β, x, w1, w2, ⟨w3, w4⟩, ⟨w5, w6⟩, w7, w8, w9, w10, w11⟩ := h2 (by rw [← he]; exact q2)
          have m3 := (((hm.sq f010).sq e11).sq f23)
          have l90 := mln_at m3 1090 21 (by decide)
          have l91 := mln_at m3 1091 21 (by decide)
          have l71 := mln_at m3 1071 21 (by decide)
          have k98 : rs s3' 1098 0 = rs s11 1098 0 := f23.nrs 1098 0 (by decide)
          rw [l90, k98, f23.nra 1090 0 _ (by decide), w10]
          refine ⟨by omega, by omega, ⟨by omega, by omega⟩, by omega, by omega, fun s6 e6 => ?_⟩
          have f6 : sq [(1128, 0)] s3' s6 := by rw [e6]; exact (sq.rf _ s3').pws 1128 0 _ (by decide)
          have r6 : rs s6 1128 0 = (askW (T, O, U, k, true) M r).2.2.2.1 := by rw [e6, rs_ws, if_pos ⟨rfl, rfl⟩]
          clear e6
          rw [f6.nrl 1091 0, l91, f6.nrs 1098 0 (by decide), k98, f6.nra 1091 0 _ (by decide), f23.nra 1091 0 _ (by decide), w11]
          refine ⟨by omega, ⟨by omega, by omega⟩, by omega, by omega, fun s11' e11' => ?_⟩
          have f11 : sq [(1129, 0)] s6 s11' := by rw [e11']; exact (sq.rf _ s6).pws 1129 0 _ (by decide)
          have r11 : rs s11' 1129 0 = (askW (T, O, U, k, true) M r).2.2.2.2.1 := by rw [e11', rs_ws, if_pos ⟨rfl, rfl⟩]
          clear e11'
          have f311 : sq [(1126, 0), (1127, 0), (1128, 0), (1129, 0)] s11 s11' := ((f23.mo (by decide)).tr (f6.mo (by decide))).tr (f11.mo (by decide))
          rw [f11.nrl 1071 0, f6.nrl 1071 0, l71, f311.nrs 1098 0 (by decide), f311.nra 1071 0 _ (by decide), w7]
          refine ⟨by omega, ⟨by omega, by omega⟩, by omega, by omega, by omega, t_layAnswer (by omega) (w1.sq f311 (by decide)) w2 w3 w4 (fun s17 f17 h17 => ?_)⟩
          have f1117 : sq ([(1125, 0), (1126, 0), (1127, 0), (1128, 0), (1129, 0)] ++ ltF) s11 s17 := (f311.mo (by decide)).tr (f17.mo (by decide))
          refine fin s11 e11 s17 f1117 (mMem.sq d6 f1117 (by decide)) ⟨by rw [f1117.nrs 1103 0 (by decide)]; exact d4.1, by rw [f1117.nrs 1104 0 (by decide)]; exact d4.2.1, by rw [f1117.nrs 1105 0 (by decide)]; exact d4.2.2.1, by rw [f1117.nrs 1106 0 (by decide)]; exact d4.2.2.2.1, by rw [f1117.nrs 1107 0 (by decide)]; exact d4.2.2.2.2⟩ (by rw [hWn]; exact ⟨by rw [f17.nrs 1126 0 (by decide), f11.nrs 1126 0 (by decide), f6.nrs 1126 0 (by decide), f3'.nrs 1126 0 (by decide)]; exact r2', fun i hi => absurd hi (by simp)⟩) (Or.inl hWn) (fun w => absurd w q0) (fun _ => ⟨by rw [f17.nrs 1128 0 (by decide), f11.nrs 1128 0 (by decide)]; exact r6, by rw [f17.nrs 1129 0 (by decide)]; exact r11, by rw [w8]; exact h17, by rw [w8, cno_len]; exact w9, by rw [w8]; exact cno_G w1.2.1 w1.2.2.1 w2 w3 w4⟩) (fun _ w => absurd (he.symm.trans q2) w)
        · rw [if_pos q2]
          refine fin s11 e11 s3' (f23.mo (by decide)) (mMem.sq d6 f23 (by decide)) ⟨by rw [f23.nrs 1103 0 (by decide)]; exact d4.1, by rw [f23.nrs 1104 0 (by decide)]; exact d4.2.1, by rw [f23.nrs 1105 0 (by decide)]; exact d4.2.2.1, by rw [f23.nrs 1106 0 (by decide)]; exact d4.2.2.2.1, by rw [f23.nrs 1107 0 (by decide)]; exact d4.2.2.2.2⟩ (by rw [hWn]; exact ⟨by rw [f3'.nrs 1126 0 (by decide)]; exact r2', fun i hi => absurd hi (by simp)⟩) (Or.inl hWn) (fun w => absurd w q0) (fun w => absurd (he.trans w) q2) (fun _ _ => r3')
    · rw [if_pos rfl]
      refine isScope_q (hX.sq f9 (by decide)) (by omega) (fun w => absurd qk w) (fun _ => ?_)
      rw [if_pos (by decide)]
      exact fin0 s9 f9 (Or.inr hx) (by rw [if_pos qk]; exact v3)
end ZAs
