/-! A given one is read: the reference. -/
def tgF : List (Nat × Int) := [(1002, 0), (1003, 0), (1004, 0), (1005, 0), (1006, 0), (1007, 0), (1018, 0), (1019, 0), (1020, 0), (1021, 0), (1024, 0)]
/-- a row's place in the new text -/
def rwN (σ : jS) (q : Int) (r : List Int) : Prop := ra σ 1021 0 q = ((r.length : Nat) : Int) ∧ ∀ i : Nat, i < r.length → ra σ 1020 0 (12 * q + ((i : Nat) : Int)) = r.getD i 0
theorem rdN_f {D : List Int} {k a : Nat} {rows : List (List Int)} (h : (rdT D (a + 1)).1 = false) : rdN D (k + 1) a rows = (false, (rdT D (a + 1)).2.1, rows) := if_pos h
theorem rdN_m {D : List Int} {k a : Nat} {rows : List (List Int)} (h : (rdT D (a + 1)).1 = true) (h2 : tpN D (rdT D (a + 1)).2.1 = 44 ∧ ¬ k = 0) : rdN D (k + 1) a rows = rdN D k (rdT D (a + 1)).2.1 (rows ++ [(rdT D (a + 1)).2.2]) := by
  show (if (rdT D (a + 1)).1 = false then _ else _) = _
  rw [if_neg (by rw [h]; decide), if_pos h2]
theorem rdN_e {D : List Int} {k a : Nat} {rows : List (List Int)} (h : (rdT D (a + 1)).1 = true) (h2 : ¬ (tpN D (rdT D (a + 1)).2.1 = 44 ∧ ¬ k = 0)) : rdN D (k + 1) a rows = (true, (rdT D (a + 1)).2.1, rows ++ [(rdT D (a + 1)).2.2]) := by
  show (if (rdT D (a + 1)).1 = false then _ else _) = _
  rw [if_neg (by rw [h]; decide), if_neg h2]
section ZTx
variable {n : Nat} {σ0 σ σ1 : jS} {D : List Int} {a : Nat} {r : List Int}
theorem rwN.sq {l : List (Nat × Int)} {q : Int} (h : rwN σ q r) (e : sq l σ σ1) (hl : (l.contains (1020, 0) || l.contains (1021, 0)) = false) : rwN σ1 q r := by
  rw [Bool.or_eq_false_iff] at hl
  obtain ⟨h1, h2⟩ := h
  refine ⟨by rw [e.nra 1021 0 _ hl.2]; exact h1, fun i hi => by rw [e.nra 1020 0 _ hl.1]; exact h2 i hi⟩
/-- what is read is laid in its place -/
theorem t_layType {Q : jS → Prop} {g i : Nat} (hn : 2 ≤ n) (hm : mln σ) (hg : rs σ 1024 0 = ((g : Nat) : Int)) (g1 : g < 24) (i1 : i < 5) (hr : r.length ≤ 12) (h6 : rs σ 1006 0 = ((r.length : Nat) : Int)) (h4 : ∀ j : Nat, j < r.length → ra σ 1004 0 ((j : Nat) : Int) = r.getD j 0)
    (hq : ∀ σ', sq [(1020, 0), (1021, 0)] σ σ' → rwN σ' (5 * ((g : Nat) : Int) + ((i : Nat) : Int)) r → (∀ q s, ¬ q = 5 * ((g : Nat) : Int) + ((i : Nat) : Int) → s.length ≤ 12 → rwN σ q s → rwN σ' q s) → Q σ') : TrV n i_Model_layType [jo 1 0, ji ((i : Nat) : Int)] σ Q := by
  have l21 := mln_at hm 1021 120 (by decide)
  have l04 := mln_at hm 1004 12 (by decide)
  have l20 := mln_at hm 1020 1440 (by decide)
  refine wp_Model_layType ⟨by omega, by rw [hg]; exact ⟨by omega, by omega⟩, by rw [hg]; exact ⟨by omega, by omega⟩, by omega, by rw [hg]; omega, by rw [hg]; omega, fun s5 e5 => ?_⟩
  rw [hg] at e5 ⊢
  have f5 : sq [(1021, 0)] σ s5 := by rw [e5]; exact (sq.rf _ σ).pwa 1021 0 _ _ (by decide)
  have r5 : ∀ q : Int, ra s5 1021 0 q = if q = 5 * ((g : Nat) : Int) + ((i : Nat) : Int) then ((r.length : Nat) : Int) else ra σ 1021 0 q := fun q => by
    rw [e5]
    unfold wa
    rw [raf_wA, if_pos ⟨rfl, rfl⟩, h6]
    rfl
  clear e5
  rw [f5.nrl 1004 0, f5.nrl 1020 0, l04, l20, f5.nrs 1006 0 (by decide), h6]
  refine ⟨by omega, by omega, ⟨by omega, by omega⟩, by omega, t_copy rfl rfl (by decide) (by decide) (by omega) (by rw [f5.nrl 1004 0, l04]; omega) (by omega) (by rw [f5.nrl 1020 0, l20]; omega) (by rw [f5.nrl 1004 0, l04]; omega) (by rw [f5.nrl 1020 0, l20]; omega) (fun s12 f12 r12 => ?_)⟩
  refine hq s12 ((f5.mo (by decide)).tr (f12.mo (by decide))) ⟨by rw [f12.nra 1021 0 _ (by decide), r5, if_pos rfl], fun j hj => ?_⟩ (fun q s hq2 hs ⟨v1, v2⟩ => ⟨by rw [f12.nra 1021 0 _ (by decide), r5, if_neg hq2]; exact v1, fun j hj => ?_⟩)
  · rw [r12, if_pos (by omega), show (0 : Int) + (12 * (5 * ((g : Nat) : Int) + ((i : Nat) : Int)) + ((j : Nat) : Int) - 12 * (5 * ((g : Nat) : Int) + ((i : Nat) : Int))) = ((j : Nat) : Int) by omega, f5.nra 1004 0 _ (by decide)]
    exact h4 j hj
  · rw [r12, if_neg (by omega), f5.nra 1020 0 _ (by decide)]
    exact v2 j hj
set_option maxRecDepth 8000 in
theorem t_readGiven {Q : Int → jS → Prop} {g : Nat} {s dp : Int} (hn : 6 ≤ n) (hm : mln σ) (hD : mTp σ D) (ha : a ≤ D.length) (h2 : rs σ 1002 0 = ((a : Nat) : Int)) (h3 : rs σ 1003 0 = -1) (hg : rs σ 1024 0 = ((g : Nat) : Int)) (g1 : g ≤ 24) (hdp : rs σ 1025 0 = dp) (d0 : 1 ≤ dp) (d1 : dp ≤ 6) (hs : ra σ 1022 0 (dp - 1) = s)
    (hqL : g = 24 → ∀ σ', sq tgF σ σ' → rs σ' 1002 0 = ((a : Nat) : Int) → rs σ' 1003 0 = ((a : Nat) : Int) → Q 0 σ')
    (hq0 : ¬ g = 24 → (rdG D a).1 = false → ∀ σ', sq tgF σ σ' → rs σ' 1002 0 = (((rdG D a).2.1 : Nat) : Int) → rs σ' 1003 0 = (((rdG D a).2.1 : Nat) : Int) → Q 0 σ')
    (hq1 : ¬ g = 24 → (rdG D a).1 = true → ∀ σ', sq tgF σ σ' → rs σ' 1002 0 = (((rdG D a).2.1 : Nat) : Int) → rs σ' 1003 0 = -1 → rs σ' 1024 0 = ((g : Nat) : Int) + 1 → (ra σ' 1018 0 ((g : Nat) : Int) = s ∧ ra σ' 1019 0 ((g : Nat) : Int) = (((rdG D a).2.2.length : Nat) : Int) - 1 ∧ ∀ i : Nat, i < (rdG D a).2.2.length → rwN σ' (5 * ((g : Nat) : Int) + ((i : Nat) : Int)) ((rdG D a).2.2.getD i [])) → (∀ j : Int, j < ((g : Nat) : Int) → ra σ' 1018 0 j = ra σ 1018 0 j ∧ ra σ' 1019 0 j = ra σ 1019 0 j) → (∀ q s, q < 5 * ((g : Nat) : Int) → s.length ≤ 12 → rwN σ q s → rwN σ' q s) → Q 1 σ') : TrI n i_Model_readGiven [jo 1 0] σ Q := by
  have l19 := mln_at hm 1019 24 (by decide)
  have l18 := mln_at hm 1018 24 (by decide)
  have l22 := mln_at hm 1022 6 (by decide)
  have hD800 := hD.2.1
  refine wp_Model_readGiven ⟨by omega, ?_⟩
  rw [hg]
  by_cases q24 : g = 24
  · rw [if_neg (fun w => w (by omega))]
    refine ⟨by omega, wp_Model_fails ⟨by omega, fun s4 e4 => ⟨Or.inl rfl, ?_⟩⟩⟩
    have f4 : sq [(1003, 0)] σ s4 := by rw [e4]; exact (sq.rf _ σ).pws 1003 0 _ (by decide)
    exact hqL q24 s4 (f4.mo (by decide)) (by rw [f4.nrs 1002 0 (by decide)]; exact h2) (by rw [e4, rs_ws, if_pos ⟨rfl, rfl⟩]; exact h2)
  rw [if_pos (by omega)]
  have hg24 : g < 24 := by omega
  -- the sign ; and all is written
  have fin : ∀ (rows : List (List Int)) (b : Nat) (s2 : jS), b ≤ D.length → 1 ≤ rows.length → rows.length ≤ 5 → rdG D a = semi D b rows → sq [(1002, 0), (1003, 0), (1004, 0), (1005, 0), (1006, 0), (1007, 0), (1020, 0), (1021, 0)] σ s2 → rs s2 1002 0 = ((b : Nat) : Int) → rs s2 1003 0 = -1 → (∀ i : Nat, i < rows.length → rwN s2 (5 * ((g : Nat) : Int) + ((i : Nat) : Int)) (rows.getD i [])) → (∀ q s, q < 5 * ((g : Nat) : Int) → s.length ≤ 12 → rwN σ q s → rwN s2 q s) → J n c_Model_readGiven (some .boolean) 127 [some (jo 1 0), some (ji (((rows.length : Nat) : Int) - 1)), none] [] s2 (qI Q) := by
    intro rows b s2 hb hr1 hr5 hG e2 v2 v3 vr vo
    have hm2 := hm.sq e2
    refine wp_Model_readGiven_127 ⟨by omega, by omega, wp_Model_takes ⟨by omega, by omega, t_here hm2 (hD.sq e2 (by decide)) v2 ?_⟩⟩
    unfold semi at hG
    by_cases q59 : tpN D b = 59
    · rw [if_pos q59] at hG
      have hlt := tpN_lt (D := D) (a := b) (by rw [q59]; decide)
      rw [if_pos q59, v2]
      refine ⟨⟨by omega, by omega⟩, fun s6 e6 => ?_⟩
      have f6 : sq [(1002, 0)] s2 s6 := by rw [e6]; exact (sq.rf _ s2).pws 1002 0 _ (by decide)
      have r6 : rs s6 1002 0 = ((b + 1 : Nat) : Int) := by rw [e6, rs_ws, if_pos ⟨rfl, rfl⟩]; omega
      clear e6
      have F6 : sq [(1002, 0), (1003, 0), (1004, 0), (1005, 0), (1006, 0), (1007, 0), (1020, 0), (1021, 0)] σ s6 := e2.tr (f6.mo (by decide))
      rw [if_pos (by decide), F6.nrl 1019 0, l19, F6.nrs 1024 0 (by decide), hg]
      refine ⟨by omega, by omega, by omega, fun s7 e7 => ?_⟩
      have f7 : sq [(1019, 0)] s6 s7 := by rw [e7]; exact (sq.rf _ s6).pwa 1019 0 _ _ (by decide)
      have r7 : ∀ j : Int, ra s7 1019 0 j = if j = ((g : Nat) : Int) then ((rows.length : Nat) : Int) - 1 else ra s6 1019 0 j := fun j => by
        rw [e7]
        unfold wa
        rw [raf_wA, if_pos ⟨rfl, rfl⟩]
        rfl
      clear e7
      rw [f7.nrl 1018 0, F6.nrl 1018 0, l18, f7.nrl 1022 0, F6.nrl 1022 0, l22, f7.nrs 1025 0 (by decide), F6.nrs 1025 0 (by decide), hdp, f7.nrs 1024 0 (by decide), F6.nrs 1024 0 (by decide), hg, f7.nra 1022 0 _ (by decide), F6.nra 1022 0 _ (by decide), hs]
      refine ⟨by omega, by omega, ⟨by omega, by omega⟩, by omega, by omega, by omega, by omega, fun s14 e14 => ?_⟩
      have f14 : sq [(1018, 0)] s7 s14 := by rw [e14]; exact (sq.rf _ s7).pwa 1018 0 _ _ (by decide)
      have r14 : ∀ j : Int, ra s14 1018 0 j = if j = ((g : Nat) : Int) then s else ra s7 1018 0 j := fun j => by
        rw [e14]
        unfold wa
        rw [raf_wA, if_pos ⟨rfl, rfl⟩]
        rfl
      clear e14
      rw [f14.nrs 1024 0 (by decide), f7.nrs 1024 0 (by decide), F6.nrs 1024 0 (by decide), hg]
      refine ⟨⟨by omega, by omega⟩, fun s18 e18 => ?_⟩
      have f18 : sq [(1024, 0)] s14 s18 := by rw [e18]; exact (sq.rf _ s14).pws 1024 0 _ (by decide)
      have r18 : rs s18 1024 0 = ((g : Nat) : Int) + 1 := by rw [e18, rs_ws, if_pos ⟨rfl, rfl⟩]
      clear e18
      have G : sq [(1002, 0), (1018, 0), (1019, 0), (1024, 0)] s2 s18 := (((f6.mo (by decide)).tr (f7.mo (by decide))).tr (f14.mo (by decide))).tr (f18.mo (by decide))
      have H : sq [(1018, 0), (1019, 0), (1024, 0)] s6 s18 := ((f7.mo (by decide)).tr (f14.mo (by decide))).tr (f18.mo (by decide))
      refine hq1 q24 (by rw [hG]) s18 ((e2.mo (by decide)).tr (G.mo (by decide))) ?_ ?_ r18 ⟨?_, ?_, fun i hi => ?_⟩ (fun j hj => ⟨?_, ?_⟩) (fun q s hq hs hw => (vo q s hq hs hw).sq G (by decide))
      · rw [hG, H.nrs 1002 0 (by decide)]; exact r6
      · rw [G.nrs 1003 0 (by decide)]; exact v3
      · rw [f18.nra 1018 0 _ (by decide), r14, if_pos rfl]
      · rw [hG, f18.nra 1019 0 _ (by decide), f14.nra 1019 0 _ (by decide), r7, if_pos rfl]
      · rw [hG] at hi ⊢
        exact (vr i hi).sq G (by decide)
      · rw [f18.nra 1018 0 _ (by decide), r14, if_neg (by omega), f7.nra 1018 0 _ (by decide), F6.nra 1018 0 _ (by decide)]
      · rw [f18.nra 1019 0 _ (by decide), f14.nra 1019 0 _ (by decide), r7, if_neg (by omega), F6.nra 1019 0 _ (by decide)]
    · rw [if_neg q59] at hG
      rw [if_neg q59, v2]
      refine wp_Model_fails ⟨by omega, fun s4 e4 => ⟨Or.inl rfl, ?_⟩⟩
      have f4 : sq [(1003, 0)] s2 s4 := by rw [e4]; exact (sq.rf _ s2).pws 1003 0 _ (by decide)
      rw [if_neg (fun w => w rfl)]
      exact hq0 q24 (by rw [hG]) s4 ((e2.mo (by decide)).tr (f4.mo (by decide))) (by rw [hG, f4.nrs 1002 0 (by decide)]; exact v2) (by rw [hG, e4, rs_ws, if_pos ⟨rfl, rfl⟩])
  -- the NEEDS
  have needs : ∀ (k : Nat) (rows : List (List Int)) (b : Nat) (s2 : jS), rows.length + k = 5 → 1 ≤ rows.length → 1 ≤ k → b < D.length → (∀ r, r ∈ rows → rwk r) → (rdG D a = if (rdN D k b rows).1 = false then (false, (rdN D k b rows).2.1, []) else semi D (rdN D k b rows).2.1 (rdN D k b rows).2.2) → sq [(1002, 0), (1003, 0), (1004, 0), (1005, 0), (1006, 0), (1007, 0), (1020, 0), (1021, 0)] σ s2 → rs s2 1002 0 = ((b : Nat) : Int) → rs s2 1003 0 = -1 → (∀ i : Nat, i < rows.length → rwN s2 (5 * ((g : Nat) : Int) + ((i : Nat) : Int)) (rows.getD i [])) → (∀ q s, q < 5 * ((g : Nat) : Int) → s.length ≤ 12 → rwN σ q s → rwN s2 q s) → J n c_Model_readGiven (some .boolean) 73 [some (jo 1 0), some (ji (((rows.length : Nat) : Int) - 1)), some (ji 1)] [] s2 (qI Q) := by
    intro k
    induction k with
    | zero => intro rows b s2 _ _ h; omega
    | succ k ih =>
      intro rows b s2 hl hr1 _ hb hrw hG e2 v2 v3 vr vo
      have hT := rdT_ok (D := D) (a := b + 1) (by omega)
      refine wp_Model_readGiven_73 ?_
      rw [if_neg (by decide), v2]
      refine ⟨by omega, ⟨by omega, by omega⟩, fun s3 e3 => ?_⟩
      have f3 : sq [(1002, 0)] s2 s3 := by rw [e3]; exact (sq.rf _ s2).pws 1002 0 _ (by decide)
      have r3 : rs s3 1002 0 = ((b + 1 : Nat) : Int) := by rw [e3, rs_ws, if_pos ⟨rfl, rfl⟩]; omega
      clear e3
      have F3 := e2.tr (f3.mo (l' := [(1002, 0), (1003, 0), (1004, 0), (1005, 0), (1006, 0), (1007, 0), (1020, 0), (1021, 0)]) (by decide))
      refine ⟨by omega, t_readType (D := D) (a := b + 1) (by omega) (hm.sq F3) (hD.sq F3 (by decide)) (by omega) r3 (by rw [f3.nrs 1003 0 (by decide)]; exact v3) (fun w s5 f5 w2 w3 w6 w4 => ?_) (fun w s5 f5 w2 w3 => ?_)⟩
      · have F5 := F3.tr (f5.mo (l' := [(1002, 0), (1003, 0), (1004, 0), (1005, 0), (1006, 0), (1007, 0), (1020, 0), (1021, 0)]) (by decide))
        have hrk := hT.2 w
        rw [if_pos (by decide), show ((rows.length : Nat) : Int) - 1 + 1 = ((rows.length : Nat) : Int) by omega]
        refine ⟨⟨by omega, by omega⟩, t_layType (r := (rdT D (b + 1)).2.2) (by omega) (hm.sq F5) (by rw [F5.nrs 1024 0 (by decide)]; exact hg) hg24 (by omega) hrk.2.2 w6 w4 (fun s8 f8 w8 o8 => ?_)⟩
        have F8 := F5.tr (f8.mo (l' := [(1002, 0), (1003, 0), (1004, 0), (1005, 0), (1006, 0), (1007, 0), (1020, 0), (1021, 0)]) (by decide))
        have hlr : (rows ++ [(rdT D (b + 1)).2.2]).length = rows.length + 1 := gd_len
        have g28 : sq [(1002, 0), (1003, 0), (1004, 0), (1005, 0), (1006, 0), (1007, 0)] s2 s5 := (f3.mo (by decide)).tr (f5.mo (by decide))
        have vr8 : ∀ i : Nat, i < (rows ++ [(rdT D (b + 1)).2.2]).length → rwN s8 (5 * ((g : Nat) : Int) + ((i : Nat) : Int)) ((rows ++ [(rdT D (b + 1)).2.2]).getD i []) := fun i hi => by
          by_cases q : i < rows.length
          · rw [gd_old q]
            have hr12 : (rows.getD i []).length ≤ 12 := by
              rw [List.getD_eq_getElem?_getD, List.getElem?_eq_getElem q]
              exact (hrw _ (List.getElem_mem q)).2.2
            exact o8 _ _ (by omega) hr12 ((vr i q).sq g28 (by decide))
          · have ei : i = rows.length := by omega
            subst ei
            rw [gd_new]
            exact w8
        have vo8 : ∀ q s, q < 5 * ((g : Nat) : Int) → s.length ≤ 12 → rwN σ q s → rwN s8 q s := fun q s hq2 hs2 hw2 => o8 q s (by omega) hs2 ((vo q s hq2 hs2 hw2).sq g28 (by decide))
        have x2 : rs s8 1002 0 = (((rdT D (b + 1)).2.1 : Nat) : Int) := by rw [f8.nrs 1002 0 (by decide)]; exact w2
        have x3 : rs s8 1003 0 = -1 := by rw [f8.nrs 1003 0 (by decide)]; exact w3
        have hend : ((rows ++ [(rdT D (b + 1)).2.2]).length : Int) - 1 = ((rows.length : Nat) : Int) := by rw [hlr]; omega
        have last : ¬ (tpN D (rdT D (b + 1)).2.1 = 44 ∧ ¬ k = 0) → J n c_Model_readGiven (some .boolean) 73 [some (jo 1 0), some (ji ((rows.length : Nat) : Int)), some (ji 0)] [] s8 (qI Q) := fun hno => by
          rw [rdN_e w hno, if_neg (fun v => by cases v)] at hG
          refine wp_Model_readGiven_73 ?_
          rw [if_pos rfl, ← hend]
          exact fin _ _ s8 hT.1 (by omega) (by omega) hG F8 x2 x3 vr8 vo8
        refine t_here (hm.sq F8) (hD.sq F8 (by decide)) x2 ?_
        by_cases q44 : tpN D (rdT D (b + 1)).2.1 = 44
        · rw [if_neg (fun w => w q44)]
          by_cases qk : k = 0
          · rw [if_pos (by omega)]
            exact last (fun w => w.2 qk)
          · rw [if_neg (by omega)]
            rw [rdN_m w ⟨q44, qk⟩] at hG
            have hlt := tpN_lt (D := D) (a := (rdT D (b + 1)).2.1) (by rw [q44]; decide)
            rw [← hend]
            exact ih _ _ s8 (by omega) (by omega) (by omega) hlt (fun r hr => by
              rcases List.mem_append.mp hr with w | w
              · exact hrw r w
              · rw [List.mem_singleton] at w
                rw [w]; exact hrk) hG F8 x2 x3 vr8 vo8
        · rw [if_pos q44]
          exact last (fun w => q44 w.1)
      · have F5 := F3.tr (f5.mo (l' := [(1002, 0), (1003, 0), (1004, 0), (1005, 0), (1006, 0), (1007, 0), (1020, 0), (1021, 0)]) (by decide))
        rw [rdN_f w, if_pos rfl] at hG
        rw [if_neg (fun w => w rfl)]
        exact hq0 q24 (by rw [hG]) s5 (F5.mo (by decide)) (by rw [hG]; exact w2) (by rw [hG]; exact w3)
  have hT := rdT_ok (D := D) (a := a) ha
  have hG : rdG D a = rdG D a := rfl
  conv at hG => rhs; unfold rdG
  refine ⟨by omega, t_readType (D := D) (a := a) (by omega) hm hD ha h2 h3 (fun w s3 f3 w2 w3 w6 w4 => ?_) (fun w s3 f3 w2 w3 => ?_)⟩
  · rw [if_neg (by rw [w]; decide)] at hG
    have hrk := hT.2 w
    have F3 : sq [(1002, 0), (1003, 0), (1004, 0), (1005, 0), (1006, 0), (1007, 0), (1020, 0), (1021, 0)] σ s3 := f3.mo (by decide)
    rw [if_pos (by decide)]
    refine t_layType (r := (rdT D a).2.2) (i := 0) (by omega) (hm.sq F3) (by rw [F3.nrs 1024 0 (by decide)]; exact hg) hg24 (by omega) hrk.2.2 w6 w4 (fun s5 f5 w5 o5 => ?_)
    have F5 := F3.tr (f5.mo (l' := [(1002, 0), (1003, 0), (1004, 0), (1005, 0), (1006, 0), (1007, 0), (1020, 0), (1021, 0)]) (by decide))
    have x2 : rs s5 1002 0 = (((rdT D a).2.1 : Nat) : Int) := by rw [f5.nrs 1002 0 (by decide)]; exact w2
    have x3 : rs s5 1003 0 = -1 := by rw [f5.nrs 1003 0 (by decide)]; exact w3
    have vr5 : ∀ s', s' = s5 → ∀ i : Nat, i < ([(rdT D a).2.2] : List (List Int)).length → rwN s' (5 * ((g : Nat) : Int) + ((i : Nat) : Int)) (([(rdT D a).2.2] : List (List Int)).getD i []) := fun s' es i hi => by
      have hi0 : i = 0 := by have : i < 1 := hi; omega
      subst hi0
      rw [es]
      exact w5
    have vo5 : ∀ q s, q < 5 * ((g : Nat) : Int) → s.length ≤ 12 → rwN σ q s → rwN s5 q s := fun q s hq2 hs2 hw2 => o5 q s (by omega) hs2 (hw2.sq f3 (by decide))
    refine t_here (hm.sq F5) (hD.sq F5 (by decide)) x2 ?_
    by_cases q60 : tpN D (rdT D a).2.1 = 60
    · rw [if_neg (fun w => w q60), x2]
      rw [if_pos q60] at hG
      have hlt := tpN_lt (D := D) (a := (rdT D a).2.1) (by rw [q60]; decide)
      refine ⟨⟨by omega, by omega⟩, fun s10 e10 => ?_⟩
      have f10 : sq [(1002, 0)] s5 s10 := by rw [e10]; exact (sq.rf _ s5).pws 1002 0 _ (by decide)
      have r10 : rs s10 1002 0 = (((rdT D a).2.1 + 1 : Nat) : Int) := by rw [e10, rs_ws, if_pos ⟨rfl, rfl⟩]; omega
      clear e10
      have F10 := F5.tr (f10.mo (l' := [(1002, 0), (1003, 0), (1004, 0), (1005, 0), (1006, 0), (1007, 0), (1020, 0), (1021, 0)]) (by decide))
      refine t_here (hm.sq F10) (hD.sq F10 (by decide)) r10 ?_
      by_cases q45 : tpN D ((rdT D a).2.1 + 1) = 45
      · rw [if_pos q45]
        rw [if_pos q45] at hG
        have hlt2 := tpN_lt (D := D) (a := (rdT D a).2.1 + 1) (by rw [q45]; decide)
        have := needs 4 [(rdT D a).2.2] ((rdT D a).2.1 + 1) s10 rfl (by show 1 ≤ 1; omega) (by omega) hlt2 (fun r hr => by
          rw [List.mem_singleton] at hr
          rw [hr]; exact hrk) hG F10 r10 (by rw [f10.nrs 1003 0 (by decide)]; exact x3) (fun i hi => (vr5 s5 rfl i hi).sq f10 (by decide)) (fun q s hq2 hs2 hw2 => (vo5 q s hq2 hs2 hw2).sq f10 (by decide))
        exact this
      · rw [if_neg q45, r10]
        rw [if_neg q45] at hG
        refine wp_Model_fails ⟨by omega, fun s4 e4 => ⟨Or.inl rfl, ?_⟩⟩
        have f4 : sq [(1003, 0)] s10 s4 := by rw [e4]; exact (sq.rf _ s10).pws 1003 0 _ (by decide)
        exact hq0 q24 (by rw [hG]) s4 ((F10.mo (by decide)).tr (f4.mo (by decide))) (by rw [hG, f4.nrs 1002 0 (by decide)]; exact r10) (by rw [hG, e4, rs_ws, if_pos ⟨rfl, rfl⟩])
    · rw [if_pos q60]
      rw [if_neg q60] at hG
      have := fin [(rdT D a).2.2] (rdT D a).2.1 s5 hT.1 (by show 1 ≤ 1; omega) (by show 1 ≤ 5; omega) hG F5 x2 x3 (vr5 s5 rfl) vo5
      exact this
  · rw [if_pos w] at hG
    rw [if_neg (fun w => w rfl)]
    exact hq0 q24 (by rw [hG]) s3 (f3.mo (by decide)) (by rw [hG]; exact w2) (by rw [hG]; exact w3)
end ZTx
