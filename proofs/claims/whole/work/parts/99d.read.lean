/-! A type is read from a tape: the class. -/
/-- the class's tape -/
def cTp (σ : jS) (D : List Int) : Prop := rs σ 8000 0 = ((D.length : Nat) : Int) ∧ D.length ≤ 800 ∧ (∀ i : Nat, i < D.length → ra σ 8002 0 ((i : Nat) : Int) = D.getD i 0) ∧ ∀ b, b ∈ D → 0 ≤ b ∧ b ≤ 255
def tyF (o : Int) : List (Nat × Int) := [(8001, 0), (8003, 0), (0, o), (1, o)]
/-- while a type is read -/
def tyC (σ0 σ : jS) (o : Int) (a : Nat) (row : List Int) (st : List Nat) : Prop := sq (tyF o) σ0 σ ∧ rs σ 8001 0 = ((a : Nat) : Int) ∧ fT σ o row ∧ ∀ i : Nat, i < st.length → ra σ 8003 0 (((st.length : Nat) : Int) - 1 - ((i : Nat) : Int)) = ((st.getD i 0 : Nat) : Int)
section ZRf
variable {n : Nat} {σ0 σ σ1 : jS} {D row : List Int} {a : Nat} {st : List Nat} {o : Int}
theorem tyF_no {F : Nat} {q : Int} (h : ¬ F = 8001 ∧ ¬ F = 8003 ∧ ¬ F = 0 ∧ ¬ F = 1) : ((tyF o).contains (F, q)) = false := by
  unfold tyF
  simp [h.1, h.2.1, h.2.2.1, h.2.2.2]
theorem cTp.ty (h : cTp σ D) (e : sq (tyF o) σ σ1) : cTp σ1 D := by
  obtain ⟨h1, h2, h3, h4⟩ := h
  refine ⟨by rw [e.nrs 8000 0 (tyF_no (by decide))]; exact h1, h2, fun i hi => ?_, h4⟩
  rw [e.nra 8002 0 _ (tyF_no (by decide))]
  exact h3 i hi
theorem c_next {Q : Int → jS → Prop} (hm : cln σ) (h : cTp σ D) (ha : rs σ 8001 0 = ((a : Nat) : Int)) (hq : Q (tpN D a) σ) : TrI n i_Tape_next [jo 8 0] σ Q := by
  obtain ⟨h1, h2, h3, h4⟩ := h
  have l02 := cln_at hm 8002 0 800 (by decide)
  refine wp_Tape_next ⟨by omega, ?_⟩
  rw [if_neg (by omega), h1, ha]
  by_cases q : a < D.length
  · rw [if_neg (by omega), if_neg (by omega), h3 a q]
    refine ⟨by omega, by omega, by omega, ?_⟩
    unfold tpN at hq
    rw [List.getElem?_eq_getElem q] at hq
    rw [List.getD_eq_getElem?_getD, List.getElem?_eq_getElem q]
    exact hq
  · rw [if_pos (by omega)]
    unfold tpN at hq
    rw [List.getElem?_eq_none (by omega)] at hq
    exact hq
theorem c_isNext {Q : Int → jS → Prop} {c : Int} (hn : 1 ≤ n) (hm : cln σ) (h : cTp σ D) (ha : rs σ 8001 0 = ((a : Nat) : Int)) (hq : Q (if tpN D a = c then 1 else 0) σ) : TrI n i_Tape_isNext [jo 8 0, ji c] σ Q := by
  refine wp_Tape_isNext ⟨by omega, hn, c_next hm h ha ?_⟩
  by_cases q : tpN D a = c
  · rw [if_pos q] at hq
    rw [if_neg (fun w => w q)]
    exact hq
  · rw [if_neg q] at hq
    rw [if_pos q]
    exact hq
theorem c_passed {Q : Int → jS → Prop} {c : Int} (hn : 2 ≤ n) (hm : cln σ) (h : cTp σ D) (ha : rs σ 8001 0 = ((a : Nat) : Int)) (hc : 0 ≤ c) (q1 : tpN D a = c → ∀ σ', sq [(8001, 0)] σ σ' → rs σ' 8001 0 = ((a + 1 : Nat) : Int) → Q 1 σ') (q0 : ¬ tpN D a = c → Q 0 σ) : TrI n i_Tape_passed [jo 8 0, ji c] σ Q := by
  refine wp_Tape_passed ⟨by omega, by omega, c_isNext (by omega) hm h ha ?_⟩
  have h800 := h.2.1
  by_cases q : tpN D a = c
  · have := tpN_lt (D := D) (a := a) (by omega)
    rw [if_pos q, if_pos (by decide), ha]
    refine ⟨⟨by omega, by omega⟩, fun s6 e6 => q1 q s6 (by rw [e6]; exact (sq.rf _ σ).pws 8001 0 _ (by decide)) (by rw [e6, rs_ws, if_pos ⟨rfl, rfl⟩]; omega)⟩
  · rw [if_neg q, if_neg (fun w => w rfl)]
    exact q0 q
theorem c_isCon {Q : Int → jS → Prop} (hn : 1 ≤ n) (hm : cln σ) (h : cTp σ D) (ha : rs σ 8001 0 = ((a : Nat) : Int)) (hq : Q (if 65 ≤ tpN D a ∧ tpN D a ≤ 90 then 1 else 0) σ) : TrI n i_Tape_isConNext [jo 8 0] σ Q := by
  refine wp_Tape_isConNext ⟨by omega, hn, c_next hm h ha ?_⟩
  by_cases q : tpN D a < 65
  · rw [if_neg (by omega)] at hq
    rw [if_pos q]; exact hq
  · rw [if_neg q]
    refine c_next hm h ha ?_
    by_cases q2 : 90 < tpN D a
    · rw [if_neg (by omega)] at hq
      rw [if_pos q2]; exact hq
    · rw [if_pos (by omega)] at hq
      rw [if_neg q2]; exact hq
theorem c_isVar {Q : Int → jS → Prop} (hn : 1 ≤ n) (hm : cln σ) (h : cTp σ D) (ha : rs σ 8001 0 = ((a : Nat) : Int)) (hq : Q (if 97 ≤ tpN D a ∧ tpN D a ≤ 122 then 1 else 0) σ) : TrI n i_Tape_isVarNext [jo 8 0] σ Q := by
  refine wp_Tape_isVarNext ⟨by omega, hn, c_next hm h ha ?_⟩
  by_cases q : tpN D a < 97
  · rw [if_neg (by omega)] at hq
    rw [if_pos q]; exact hq
  · rw [if_neg q]
    refine c_next hm h ha ?_
    by_cases q2 : 122 < tpN D a
    · rw [if_neg (by omega)] at hq
      rw [if_pos q2]; exact hq
    · rw [if_pos (by omega)] at hq
      rw [if_neg q2]; exact hq
/-- signs ) are passed -/
theorem c_close {Q : Int → jS → Prop} (hn : 3 ≤ n) (hm : cln σ) (h : cTp σ D) (hq : ∀ σ', sq [(8001, 0)] σ σ' → rs σ' 8001 0 = (((clsS D a st).1 : Nat) : Int) → Q ((((clsS D a st).2.length : Nat) : Nat) : Int) σ') (ha : rs σ 8001 0 = ((a : Nat) : Int)) (hsl : st.length ≤ 100) : TrI n i_Tape_close [jo 8 0, ji ((st.length : Nat) : Int)] σ Q := by
  have loop : ∀ (st2 : List Nat) (a2 : Nat) (σ2 : jS), clsS D a st = clsS D a2 st2 → st2.length ≤ 100 → sq [(8001, 0)] σ σ2 → rs σ2 8001 0 = ((a2 : Nat) : Int) → J n c_Tape_close (some .int) 2 [some (jo 8 0), none, some (ji ((st2.length : Nat) : Int))] [] σ2 (qI Q) := by
    intro st2
    induction st2 with
    | nil =>
      intro a2 σ2 hc _ e2 h2
      refine wp_Tape_close_2 ?_
      rw [if_pos (by show ((0 : Nat) : Int) ≤ 0; omega)]
      have hc2 : clsS D a st = (a2, []) := hc
      have := hq σ2 e2 (by rw [hc2]; exact h2)
      rw [hc2] at this
      exact this
    | cons o st' ih =>
      intro a2 σ2 hc hl2 e2 h2
      rw [List.length_cons] at hl2 ⊢
      refine wp_Tape_close_2 ?_
      rw [if_neg (by omega)]
      refine ⟨by omega, by omega, c_passed (D := D) (a := a2) (by omega) (hm.sq e2) ?_ h2 (by decide) (fun q σ3 e3 h3 => ?_) (fun q => ?_)⟩
      · obtain ⟨g1, g2, g3, g4⟩ := h
        refine ⟨by rw [e2.nrs 8000 0 (by decide)]; exact g1, g2, fun i hi => ?_, g4⟩
        rw [e2.nra 8002 0 _ (by decide)]
        exact g3 i hi
      · rw [if_neg (by decide), show ((st'.length + 1 : Nat) : Int) + (-1) = ((st'.length : Nat) : Int) by omega]
        refine ⟨⟨by omega, by omega⟩, ih (a2 + 1) σ3 (hc.trans ?_) (by omega) (e2.tr e3) h3⟩
        show (if tpN D a2 = 41 then clsS D (a2 + 1) st' else (a2, o :: st')) = _
        rw [if_pos q]
      · rw [if_pos rfl]
        have hc2 : clsS D a st = (a2, o :: st') := hc.trans (by
          show (if tpN D a2 = 41 then clsS D (a2 + 1) st' else (a2, o :: st')) = _
          rw [if_neg q])
        have := hq σ2 e2 (by rw [hc2]; exact h2)
        rw [hc2] at this
        exact this
  refine wp_Tape_close ?_
  exact loop st a σ rfl hsl (sq.rf _ σ) ha
/-- a thing is put behind -/
theorem fT_add {v t : Int} (h : fT σ o row) (hv : v = cc t) (hl : row.length < 12) (hl12 : rl σ 0 o = 12) (e : sq [(0, o), (1, o)] σ σ1) (e1 : rs σ1 1 o = rs σ 1 o + 1) (e2 : ra σ1 0 o = if rs σ 1 o < rl σ 0 o then upI (ra σ 0 o) (rs σ 1 o) v else ra σ 0 o) : fT σ1 o (row ++ [t]) := by
  obtain ⟨h1, h2, h3, h4⟩ := h
  have hlen : (row ++ [t]).length = row.length + 1 := by rw [List.length_append]; rfl
  refine ⟨h1, by rw [hlen, e1, h2]; omega, by rw [hlen, e.nrl, hl12]; omega, fun i hi => ?_⟩
  rw [hlen] at hi
  rw [e2, if_pos (by omega), h2]
  unfold upI
  by_cases qi : i = row.length
  · subst qi
    rw [if_pos rfl, List.getD_eq_getElem?_getD, List.getElem?_append_right (Nat.le_refl _), Nat.sub_self]
    exact hv
  · rw [if_neg (by omega), h4 i (by omega), List.getD_eq_getElem?_getD, List.getD_eq_getElem?_getD, List.getElem?_append_left (by omega)]
/-- the sign ahead of a part is passed -/
theorem c_nextPart {Q : Int → jS → Prop} {p : Nat} (hn : 4 ≤ n) (hm : cln σ) (h : cTp σ D) (ha : rs σ 8001 0 = ((a : Nat) : Int)) (hf : fT σ o row) (hl12 : rl σ 0 o = 12) (hp : p < row.length) (hrl : row.length ≤ 12) (h0 : 0 ≤ row.getD p 0) (h1 : row.getD p 0 < 104)
    (q0 : row.getD p 0 % 4 = 3 ∨ ¬ tpN D a = (if row.getD p 0 % 4 = 0 then 40 else 44) → Q 0 σ)
    (q1 : ¬ row.getD p 0 % 4 = 3 → tpN D a = (if row.getD p 0 % 4 = 0 then 40 else 44) → ∀ σ', sq [(8001, 0), (0, o)] σ σ' → rs σ' 8001 0 = ((a + 1 : Nat) : Int) → fT σ' o (row.set p (row.getD p 0 + 1)) → Q 1 σ') : TrI n i_Tape_nextPart [jo 8 0, jo 0 o, ji ((p : Nat) : Int)] σ Q := by
  have ho := hf.1
  have ecc : cc (row.getD p 0) = row.getD p 0 := by unfold cc; rw [if_neg (by omega)]
  have epn : ((pN (row.getD p 0) : Nat) : Int) = row.getD p 0 % 4 := by
    unfold pN
    rw [if_neg (by omega)]
    omega
  refine wp_Tape_nextPart ⟨ho, by omega, wp_Flat_partsAt ⟨ho, by omega, c_at hf hp ?_⟩⟩
  rw [ecc]
  refine c_fparts h0 (by omega) ?_
  have e104 : (if row.getD p 0 = 104 then (0 : Int) else ((pN (row.getD p 0) : Nat) : Int)) = row.getD p 0 % 4 := by rw [if_neg (by omega), epn]
  rw [e104]
  -- one more part
  have add : ∀ σ2, sq [(8001, 0)] σ σ2 → rs σ2 8001 0 = ((a + 1 : Nat) : Int) → ¬ row.getD p 0 % 4 = 3 → tpN D a = (if row.getD p 0 % 4 = 0 then 40 else 44) → TrV (n - 1) i_Flat_addPart [jo 0 o, ji ((p : Nat) : Int)] σ2 (fun zs8 => Q 1 zs8) := by
    intro σ2 e2 h2 w1 w2
    have f2 : fT σ2 o row := hf.sq e2 (by decide)
    obtain ⟨g1, g2, g3, g4⟩ := f2
    have l2 : rl σ2 0 o = 12 := by rw [e2.nrl]; exact hl12
    refine wp_Flat_addPart ?_
    rw [if_neg (by omega)]
    refine ⟨ho, by omega, wp_Flat_length ⟨ho, by omega, by omega, ?_⟩⟩
    rw [l2, g2, if_neg (by omega), g4 p hp, ecc]
    refine ⟨by omega, by omega, by omega, ⟨by omega, by omega⟩, fun s9 e9 => ?_⟩
    have f9 : sq [(0, o)] σ2 s9 := by rw [e9]; exact (sq.rf _ σ2).pwa 0 o _ _ (List.contains_iff_mem.mpr List.mem_cons_self)
    have r9 : ∀ i : Int, ra s9 0 o i = if i = ((p : Nat) : Int) then row.getD p 0 + 1 else ra σ2 0 o i := fun i => by
      rw [e9]
      unfold wa
      rw [raf_wA, if_pos ⟨rfl, rfl⟩]
      rfl
    have s9s : rs s9 1 o = rs σ2 1 o := by rw [e9]; rfl
    have s9a : rs s9 8001 0 = rs σ2 8001 0 := by rw [e9]; rfl
    clear e9
    refine q1 w1 w2 s9 ((e2.mo (by simp)).tr (f9.mo (by simp))) (by rw [s9a]; exact h2) ⟨ho, by rw [s9s, List.length_set]; exact g2, by rw [f9.nrl, List.length_set]; exact g3, fun i hi => ?_⟩
    rw [List.length_set] at hi
    rw [r9]
    by_cases qi : i = p
    · subst qi
      rw [if_pos rfl, List.getD_eq_getElem?_getD (l := List.set _ _ _), List.getElem?_set_self hi]
      show row.getD i 0 + 1 = cc (row.getD i 0 + 1)
      unfold cc
      rw [if_neg (by omega)]
    · rw [if_neg (by omega), g4 i hi, List.getD_eq_getElem?_getD (l := List.set _ _ _), List.getElem?_set_ne (fun w => qi w.symm), ← List.getD_eq_getElem?_getD]
  by_cases q3 : row.getD p 0 % 4 = 3
  · rw [if_pos q3]
    exact q0 (Or.inl q3)
  · rw [if_neg q3]
    refine ⟨by omega, ?_⟩
    by_cases qz : row.getD p 0 % 4 = 0
    · rw [if_neg (fun w => w qz)]
      rw [if_pos qz] at q0 q1
      refine c_passed (D := D) (a := a) (by omega) hm h ha (by decide) (fun w σ2 e2 h2 => ?_) (fun w => ?_)
      · rw [if_pos (by decide)]
        exact add σ2 e2 h2 q3 (by rw [if_pos qz]; exact w)
      · rw [if_neg (fun w => w rfl)]
        exact q0 (Or.inr w)
    · rw [if_pos qz]
      rw [if_neg qz] at q0 q1
      refine c_passed (D := D) (a := a) (by omega) hm h ha (by decide) (fun w σ2 e2 h2 => ?_) (fun w => ?_)
      · rw [if_pos (by decide)]
        exact add σ2 e2 h2 q3 (by rw [if_neg qz]; exact w)
      · rw [if_neg (fun w => w rfl)]
        exact q0 (Or.inr w)
end ZRf
