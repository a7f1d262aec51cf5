/-! A type is read from a tape: the reference. -/
/-- the reference's tape -/
def mTp (σ : jS) (D : List Int) : Prop := rs σ 1001 0 = ((D.length : Nat) : Int) ∧ D.length ≤ 800 ∧ (∀ i : Nat, i < D.length → bAnd (ra σ 1000 0 ((i : Nat) : Int)) 255 = D.getD i 0) ∧ ∀ b, b ∈ D → 0 ≤ b ∧ b ≤ 255
def rtF : List (Nat × Int) := [(1002, 0), (1003, 0), (1004, 0), (1005, 0), (1006, 0), (1007, 0)]
/-- while a type is read -/
def tyI (σ0 σ : jS) (a : Nat) (row : List Int) (st : List Nat) : Prop := sq rtF σ0 σ ∧ rs σ 1002 0 = ((a : Nat) : Int) ∧ rs σ 1003 0 = -1 ∧ rs σ 1006 0 = ((row.length : Nat) : Int) ∧ (∀ i : Nat, i < row.length → ra σ 1004 0 ((i : Nat) : Int) = row.getD i 0) ∧ rs σ 1007 0 = ((st.length : Nat) : Int) ∧ ∀ i : Nat, i < st.length → ra σ 1005 0 (((st.length : Nat) : Int) - 1 - ((i : Nat) : Int)) = ((st.getD i 0 : Nat) : Int)
section ZRd
variable {n : Nat} {σ0 σ σ1 : jS} {D row : List Int} {a : Nat} {st : List Nat}
theorem mTp.sq {l : List (Nat × Int)} (h : mTp σ D) (e : sq l σ σ1) (hl : (l.contains (1000, 0) || l.contains (1001, 0)) = false) : mTp σ1 D := by
  rw [Bool.or_eq_false_iff] at hl
  obtain ⟨h1, h2, h3, h4⟩ := h
  refine ⟨by rw [e.nrs 1001 0 hl.2]; exact h1, h2, fun i hi => ?_, h4⟩
  rw [e.nra 1000 0 _ hl.1]
  exact h3 i hi
theorem tpN_rng (h : ∀ b, b ∈ D → 0 ≤ b ∧ b ≤ 255) : -1 ≤ tpN D a ∧ tpN D a ≤ 255 := by
  unfold tpN
  by_cases q : a < D.length
  · rw [List.getElem?_eq_getElem q]
    have := h _ (List.getElem_mem q)
    show -1 ≤ D[a] ∧ D[a] ≤ 255
    omega
  · rw [List.getElem?_eq_none (by omega)]
    show -1 ≤ (-1 : Int) ∧ (-1 : Int) ≤ 255
    omega
theorem t_here {Q : Int → jS → Prop} (hm : mln σ) (h : mTp σ D) (ha : rs σ 1002 0 = ((a : Nat) : Int)) (hq : Q (tpN D a) σ) : TrI n i_Model_here [jo 1 0] σ Q := by
  obtain ⟨h1, h2, h3, h4⟩ := h
  have l00 := mln_at hm 1000 800 (by decide)
  refine wp_Model_here ⟨by omega, ?_⟩
  rw [h1, ha]
  by_cases q : a < D.length
  · rw [if_neg (by omega), h3 a q]
    refine ⟨by omega, by omega, by omega, ?_⟩
    unfold tpN at hq
    rw [List.getElem?_eq_getElem q] at hq
    rw [List.getD_eq_getElem?_getD, List.getElem?_eq_getElem q]
    exact hq
  · rw [if_pos (by omega)]
    unfold tpN at hq
    rw [List.getElem?_eq_none (by omega)] at hq
    exact hq
set_option maxRecDepth 8000 in
theorem t_hasMore {Q : Int → jS → Prop} {t con : Int} (hn : 2 ≤ n) (hm : mln σ0) (hD : mTp σ0 D) (ha : a ≤ D.length) (hcon : con = 0 ∨ con = 1) (hI : tyI σ0 σ a (row ++ [t]) st) (hl : row.length + 1 ≤ 12) (hsl : st.length ≤ row.length) (hg : ∀ s, s ∈ row ++ [t] → thg s) (hst : ∀ o, o ∈ st → o < row.length ∧ 0 ≤ row.getD o 0)
    (c1 : con = 1 → tpN D a = 40 → ∀ σ', tyI σ0 σ' (a + 1) (row ++ [t + 1]) (row.length :: st) → Q 1 σ')
    (c2 : ¬ (con = 1 ∧ tpN D a = 40) → ∀ a', clsS D a st = (a', []) → ∀ σ', tyI σ0 σ' a' (row ++ [t]) [] → Q 0 σ')
    (c3 : ¬ (con = 1 ∧ tpN D a = 40) → ∀ a' o st', clsS D a st = (a', o :: st') → ((row ++ [t]).getD o 0 % 4 = 3 ∨ ¬ tpN D a' = 44) → ∀ σ', sq rtF σ0 σ' → rs σ' 1002 0 = ((a' : Nat) : Int) → rs σ' 1003 0 = ((a' : Nat) : Int) → Q 0 σ')
    (c4 : ¬ (con = 1 ∧ tpN D a = 40) → ∀ a' o st', clsS D a st = (a', o :: st') → ¬ ((row ++ [t]).getD o 0 % 4 = 3 ∨ ¬ tpN D a' = 44) → ∀ σ', tyI σ0 σ' (a' + 1) ((row ++ [t]).set o ((row ++ [t]).getD o 0 + 1)) (o :: st') → Q 1 σ') : TrI n i_Model_hasMore [jo 1 0, ji con] σ Q := by
  have hrl : (row ++ [t]).length = row.length + 1 := by rw [List.length_append]; rfl
  have hml : mln σ := hm.sq hI.1
  have l04 := mln_at hml 1004 12 (by decide)
  have l05 := mln_at hml 1005 12 (by decide)
  have hD800 := hD.2.1
  -- behind the signs )
  have end104 : ¬ (con = 1 ∧ tpN D a = 40) → ∀ a' st2 σ2, clsS D a st = (a', st2) → a' ≤ D.length → tyI σ0 σ2 a' (row ++ [t]) st2 → (st2 = [] ∨ ¬ tpN D a' = 41) → J n c_Model_hasMore (some .boolean) 104 [some (jo 1 0), none, none] [] σ2 (qI Q) := by
    intro hno a' st2 σ2 hcl ha' hI2 _
    have hI20 := hI2
    obtain ⟨e2, i2, i3, i6, i4, i7, i5⟩ := hI2
    have hm2 : mln σ2 := hm.sq e2
    have l04 := mln_at hm2 1004 12 (by decide)
    have l05 := mln_at hm2 1005 12 (by decide)
    have hle := clsS_le (D := D) (st := st) (a := a) ha
    rw [hcl] at hle
    obtain ⟨p1, p2, p3, p4⟩ := hle
    dsimp only at p1 p2 p3 p4
    refine wp_Model_hasMore_104 ⟨by omega, ?_⟩
    rw [i7]
    cases st2 with
    | nil =>
      rw [if_neg (fun w => w rfl)]
      exact c2 hno a' hcl σ2 hI20
    | cons o st' =>
      rw [List.length_cons] at p3 i5
      have i50 := i5 0 (by omega)
      have etop : ra σ2 1005 0 (((st'.length + 1 : Nat) : Int) - 1) = ((o : Nat) : Int) := by
        rw [show ((st'.length + 1 : Nat) : Int) - 1 = ((st'.length + 1 : Nat) : Int) - 1 - ((0 : Nat) : Int) by omega]
        exact i50
      obtain ⟨o1, o2⟩ := hst o (p4 o List.mem_cons_self)
      have e4 := i4 o (by omega)
      have eo : (row ++ [t]).getD o 0 = row.getD o 0 := by
        rw [List.getD_eq_getElem?_getD, List.getElem?_append_left o1, ← List.getD_eq_getElem?_getD]
      have og : thg ((row ++ [t]).getD o 0) := by
        rw [List.getD_eq_getElem?_getD, List.getElem?_eq_getElem (show o < (row ++ [t]).length by omega)]
        exact hg _ (List.getElem_mem _)
      unfold thg at og
      rw [List.length_cons, if_pos (by omega)]
      refine ⟨by omega, ⟨by omega, by omega⟩, by omega, by omega, by omega, t_here hm2 (hD.sq e2 (by decide)) i2 ?_⟩
      by_cases q44 : tpN D a' = 44
      · rw [if_neg (fun w => w q44), etop, e4]
        refine ⟨by omega, by omega, by omega, by rw [eo]; exact o2, ?_⟩
        by_cases q3 : (row ++ [t]).getD o 0 % 4 = 3
        · rw [if_neg (fun w => w q3)]
          refine wp_Model_fails ⟨by omega, fun s4 e5 => ⟨Or.inl rfl, ?_⟩⟩
          have f4 : sq [(1003, 0)] σ2 s4 := by rw [e5]; exact (sq.rf _ σ2).pws 1003 0 _ (by decide)
          exact c3 hno a' o st' hcl (Or.inl q3) s4 (e2.tr (f4.mo (by decide))) (by rw [f4.nrs 1002 0 (by decide)]; exact i2) (by rw [e5, rs_ws, if_pos ⟨rfl, rfl⟩]; exact i2)
        · rw [if_pos q3]
          refine ⟨⟨by omega, by omega⟩, fun s17 e17 => ?_⟩
          have f17 : sq [(1004, 0)] σ2 s17 := by rw [e17]; exact (sq.rf _ σ2).pwa 1004 0 _ _ (by decide)
          have r17 : ∀ i : Int, ra s17 1004 0 i = if i = ((o : Nat) : Int) then (row ++ [t]).getD o 0 + 1 else ra σ2 1004 0 i := fun i => by
            rw [e17]
            unfold wa
            rw [raf_wA, if_pos ⟨rfl, rfl⟩]
            rfl
          clear e17
          rw [f17.nrs 1002 0 (by decide), i2]
          refine ⟨⟨by omega, by omega⟩, fun s19 e19 => ?_⟩
          have f19 : sq [(1002, 0)] s17 s19 := by rw [e19]; exact (sq.rf _ s17).pws 1002 0 _ (by decide)
          have r19 : rs s19 1002 0 = ((a' + 1 : Nat) : Int) := by rw [e19, rs_ws, if_pos ⟨rfl, rfl⟩]; omega
          clear e19
          refine c4 hno a' o st' hcl (fun w => by rcases w with w | w; exact q3 w; exact w q44) s19 ⟨(e2.tr (f17.mo (by decide))).tr (f19.mo (by decide)), r19, ?_, ?_, fun i hi => ?_, ?_, fun i hi => ?_⟩
          · rw [f19.nrs 1003 0 (by decide), f17.nrs 1003 0 (by decide)]; exact i3
          · rw [f19.nrs 1006 0 (by decide), f17.nrs 1006 0 (by decide), List.length_set]; exact i6
          · rw [List.length_set] at hi
            rw [f19.nra 1004 0 _ (by decide), r17]
            by_cases qi : i = o
            · subst qi
              rw [if_pos rfl, List.getD_eq_getElem?_getD (l := List.set _ _ _), List.getElem?_set_self hi]
              rfl
            · rw [if_neg (by omega), i4 i hi, List.getD_eq_getElem?_getD (l := List.set _ _ _), List.getElem?_set_ne (fun w => qi w.symm), ← List.getD_eq_getElem?_getD]
          · rw [f19.nrs 1007 0 (by decide), f17.nrs 1007 0 (by decide)]; exact i7
          · rw [f19.nra 1005 0 _ (by decide), f17.nra 1005 0 _ (by decide)]
            rw [List.length_cons] at hi ⊢
            exact i5 i hi
      · rw [if_pos q44]
        refine wp_Model_fails ⟨by omega, fun s4 e5 => ⟨Or.inl rfl, ?_⟩⟩
        have f4 : sq [(1003, 0)] σ2 s4 := by rw [e5]; exact (sq.rf _ σ2).pws 1003 0 _ (by decide)
        exact c3 hno a' o st' hcl (Or.inr q44) s4 (e2.tr (f4.mo (by decide))) (by rw [f4.nrs 1002 0 (by decide)]; exact i2) (by rw [e5, rs_ws, if_pos ⟨rfl, rfl⟩]; exact i2)
  -- the signs )
  have loop65 : ¬ (con = 1 ∧ tpN D a = 40) → ∀ (st2 : List Nat) (a2 : Nat) (σ2 : jS), clsS D a st = clsS D a2 st2 → a2 ≤ D.length → st2.length ≤ st.length → tyI σ0 σ2 a2 (row ++ [t]) st2 → J n c_Model_hasMore (some .boolean) 65 [some (jo 1 0), none, none] [] σ2 (qI Q) := by
    intro hno st2
    induction st2 with
    | nil =>
      intro a2 σ2 hcl ha2 hlen2 hI2
      refine wp_Model_hasMore_65 ⟨by omega, ?_⟩
      rw [hI2.2.2.2.2.2.1, if_pos (by show ((0 : Nat) : Int) ≤ 0; omega)]
      exact end104 hno a2 [] σ2 (by rw [hcl]; rfl) ha2 hI2 (Or.inl rfl)
    | cons o st' ih =>
      intro a2 σ2 hcl ha2 hlen2 hI2
      have hI20 := hI2
      rw [List.length_cons] at hlen2
      obtain ⟨e2, i2, i3, i6, i4, i7, i5⟩ := hI2
      have hm2 : mln σ2 := hm.sq e2
      refine wp_Model_hasMore_65 ⟨by omega, ?_⟩
      rw [i7, if_neg (by rw [List.length_cons]; omega)]
      refine ⟨by omega, t_here hm2 (hD.sq e2 (by decide)) i2 ?_⟩
      by_cases q : tpN D a2 = 41
      · rw [if_neg (fun w => w q), i2]
        have ha3 := tpN_lt (D := D) (a := a2) (by rw [q]; decide)
        refine ⟨⟨by omega, by omega⟩, fun s6 e6 => ?_⟩
        have f6 : sq [(1002, 0)] σ2 s6 := by rw [e6]; exact (sq.rf _ σ2).pws 1002 0 _ (by decide)
        have r6 : rs s6 1002 0 = ((a2 + 1 : Nat) : Int) := by rw [e6, rs_ws, if_pos ⟨rfl, rfl⟩]; omega
        clear e6
        rw [f6.nrs 1007 0 (by decide), i7, List.length_cons]
        refine ⟨⟨by omega, by omega⟩, fun s8 e8 => ?_⟩
        have f8 : sq [(1007, 0)] s6 s8 := by rw [e8]; exact (sq.rf _ s6).pws 1007 0 _ (by decide)
        have r8 : rs s8 1007 0 = ((st'.length : Nat) : Int) := by rw [e8, rs_ws, if_pos ⟨rfl, rfl⟩]; omega
        clear e8
        have hcs : clsS D a2 (o :: st') = clsS D (a2 + 1) st' := by
          show (if tpN D a2 = 41 then clsS D (a2 + 1) st' else (a2, o :: st')) = _
          rw [if_pos q]
        refine ih (a2 + 1) s8 (hcl.trans hcs) (by omega) (by omega) ⟨(e2.tr (f6.mo (by decide))).tr (f8.mo (by decide)), by rw [f8.nrs 1002 0 (by decide)]; exact r6, ?_, ?_, fun i hi => ?_, r8, fun i hi => ?_⟩
        · rw [f8.nrs 1003 0 (by decide), f6.nrs 1003 0 (by decide)]; exact i3
        · rw [f8.nrs 1006 0 (by decide), f6.nrs 1006 0 (by decide)]; exact i6
        · rw [f8.nra 1004 0 _ (by decide), f6.nra 1004 0 _ (by decide)]; exact i4 i hi
        · rw [f8.nra 1005 0 _ (by decide), f6.nra 1005 0 _ (by decide)]
          have := i5 (i + 1) (by rw [List.length_cons]; omega)
          rw [List.length_cons] at this
          rw [show ((st'.length : Nat) : Int) - 1 - ((i : Nat) : Int) = ((st'.length + 1 : Nat) : Int) - 1 - ((i + 1 : Nat) : Int) by omega, this]
          rfl
      · rw [if_pos q]
        refine end104 hno a2 (o :: st') σ2 ?_ ha2 hI20 (Or.inr q)
        rw [hcl]
        show (if tpN D a2 = 41 then clsS D (a2 + 1) st' else (a2, o :: st')) = _
        rw [if_neg q]
  have hI0 := hI
  obtain ⟨e, i2, i3, i6, i4, i7, i5⟩ := hI
  refine wp_Model_hasMore ?_
  by_cases qc : con = 0
  · rw [if_pos qc]
    exact loop65 (fun w => by omega) st a σ rfl ha (Nat.le_refl _) hI0
  · rw [if_neg qc]
    have hc1 : con = 1 := by omega
    refine ⟨by omega, by omega, t_here hml (hD.sq e (by decide)) i2 ?_⟩
    by_cases q40 : tpN D a = 40
    · rw [if_neg (fun w => w q40), i2]
      have ha3 := tpN_lt (D := D) (a := a) (by rw [q40]; decide)
      refine ⟨⟨by omega, by omega⟩, fun s6 e6 => ?_⟩
      have f6 : sq [(1002, 0)] σ s6 := by rw [e6]; exact (sq.rf _ σ).pws 1002 0 _ (by decide)
      have r6 : rs s6 1002 0 = ((a + 1 : Nat) : Int) := by rw [e6, rs_ws, if_pos ⟨rfl, rfl⟩]; omega
      clear e6
      rw [f6.nrl 1005 0, l05, f6.nrs 1006 0 (by decide), f6.nrs 1007 0 (by decide), i6, i7, hrl]
      refine ⟨by omega, ⟨by omega, by omega⟩, by omega, by omega, fun s9 e9 => ?_⟩
      have f9 : sq [(1005, 0)] s6 s9 := by rw [e9]; exact (sq.rf _ s6).pwa 1005 0 _ _ (by decide)
      have r9 : ∀ i : Int, ra s9 1005 0 i = if i = ((st.length : Nat) : Int) then ((row.length + 1 : Nat) : Int) - 1 else ra s6 1005 0 i := fun i => by
        rw [e9]
        unfold wa
        rw [raf_wA, if_pos ⟨rfl, rfl⟩]
        rfl
      clear e9
      rw [f9.nrs 1007 0 (by decide), f6.nrs 1007 0 (by decide), i7]
      refine ⟨⟨by omega, by omega⟩, fun s13 e13 => ?_⟩
      have f13 : sq [(1007, 0)] s9 s13 := by rw [e13]; exact (sq.rf _ s9).pws 1007 0 _ (by decide)
      have r13 : rs s13 1007 0 = ((st.length + 1 : Nat) : Int) := by rw [e13, rs_ws, if_pos ⟨rfl, rfl⟩]; omega
      clear e13
      have g13 : sq [(1002, 0), (1005, 0), (1007, 0)] σ s13 := ((f6.mo (by decide)).tr (f9.mo (by decide))).tr (f13.mo (by decide))
      have e4t : ra s13 1004 0 (((row.length + 1 : Nat) : Int) - 1) = t := by
        rw [g13.nra 1004 0 _ (by decide), show ((row.length + 1 : Nat) : Int) - 1 = ((row.length : Nat) : Int) by omega, i4 row.length (by omega), List.getD_eq_getElem?_getD, List.getElem?_append_right (Nat.le_refl _), Nat.sub_self]
        rfl
      have htg := hg t (List.mem_append_right _ (List.mem_singleton.mpr rfl))
      unfold thg at htg
      rw [g13.nrl 1004 0, l04, g13.nrs 1006 0 (by decide), i6, hrl, e4t]
      refine ⟨by omega, ⟨by omega, by omega⟩, by omega, by omega, ⟨by omega, by omega⟩, fun s19 e19 => ?_⟩
      have f19 : sq [(1004, 0)] s13 s19 := by rw [e19]; exact (sq.rf _ s13).pwa 1004 0 _ _ (by decide)
      have r19 : ∀ i : Int, ra s19 1004 0 i = if i = ((row.length : Nat) : Int) then t + 1 else ra s13 1004 0 i := fun i => by
        rw [e19]
        unfold wa
        rw [raf_wA, if_pos ⟨rfl, rfl⟩, show ((row.length + 1 : Nat) : Int) - 1 = ((row.length : Nat) : Int) by omega]
        rfl
      clear e19
      refine c1 hc1 q40 s19 ⟨(e.tr (g13.mo (by decide))).tr (f19.mo (by decide)), ?_, ?_, ?_, fun i hi => ?_, ?_, fun i hi => ?_⟩
      · rw [f19.nrs 1002 0 (by decide), f13.nrs 1002 0 (by decide), f9.nrs 1002 0 (by decide)]; exact r6
      · rw [f19.nrs 1003 0 (by decide), g13.nrs 1003 0 (by decide)]; exact i3
      · rw [f19.nrs 1006 0 (by decide), g13.nrs 1006 0 (by decide), i6, List.length_append, List.length_append]; rfl
      · rw [List.length_append] at hi
        have hi' : i < row.length + 1 := hi
        rw [r19]
        by_cases qi : i = row.length
        · subst qi
          rw [if_pos rfl, List.getD_eq_getElem?_getD, List.getElem?_append_right (Nat.le_refl _), Nat.sub_self]
          rfl
        · rw [if_neg (by omega), g13.nra 1004 0 _ (by decide), i4 i (by omega), List.getD_eq_getElem?_getD, List.getD_eq_getElem?_getD, List.getElem?_append_left (by omega), List.getElem?_append_left (by omega)]
      · rw [f19.nrs 1007 0 (by decide)]; exact r13
      · rw [f19.nra 1005 0 _ (by decide), f13.nra 1005 0 _ (by decide), r9, List.length_cons]
        rw [List.length_cons] at hi
        cases i with
        | zero =>
          rw [if_pos (by omega)]
          show ((row.length + 1 : Nat) : Int) - 1 = ((row.length : Nat) : Int)
          omega
        | succ i =>
          rw [if_neg (by omega), f6.nra 1005 0 _ (by decide)]
          have := i5 i (by omega)
          rw [show ((st.length + 1 : Nat) : Int) - 1 - ((i + 1 : Nat) : Int) = ((st.length : Nat) : Int) - 1 - ((i : Nat) : Int) by omega, this]
          rfl
    · rw [if_pos q40]
      exact loop65 (fun w => q40 w.2) st a σ rfl ha (Nat.le_refl _) hI0
end ZRd
