/-! A type's things, its letters named by their order: the class. -/
def fF (o : Int) : List (Nat × Int) := [(0, o), (1, o), (9008, 0), (9011, 0), (9012, 0), (9014, 0)]
/-- a type as a row, up to a hundred things; the size up to 101 -/
def fR (σ : jS) (o : Int) (L : List Int) : Prop := (rs σ 1 o = if L.length ≤ 100 then ((L.length : Nat) : Int) else 101) ∧ ∀ j : Nat, j < L.length → j < 100 → ra σ 0 o j = cc ((cno [] L).getD j 0)
section ZF
variable {n : Nat} {σ : jS} {g : zH} {N : Int} {β : List (Int × Int)} {x u t o : Int}
theorem cno_pre {D E : List Int} (i : Nat) (h : i < D.length) : (cno [] (D ++ E)).getD i 0 = (cno [] D).getD i 0 := by
  rw [cno_app]
  show ((cno [] D ++ _)[i]?).getD 0 = ((cno [] D)[i]?).getD 0
  rw [List.getElem?_append_left (by rw [cno_len]; exact h)]
theorem fR.fT {L : List Int} (h : fR σ o L) (hL : L.length ≤ 100) (ho : 0 ≤ o) (hl : rl σ 0 o = 100) : fT σ o (cno [] L) := by
  obtain ⟨h1, h2⟩ := h
  rw [if_pos hL] at h1
  exact ⟨ho, by rw [h1, cno_len], by rw [cno_len]; omega, fun i hi => by rw [cno_len] at hi; exact h2 i hi (by omega)⟩
theorem c_add {Q : jS → Prop} {v : Int} (ho : 0 ≤ o) (hl : 0 ≤ rl σ 0 o) (h0 : 0 ≤ rs σ 1 o) (h1 : rs σ 1 o < 1000000) (hq : ∀ σ1, sq [(0, o), (1, o)] σ σ1 → rs σ1 1 o = rs σ 1 o + 1 → (ra σ1 0 o = if rs σ 1 o < rl σ 0 o then upI (ra σ 0 o) (rs σ 1 o) v else ra σ 0 o) → Q σ1) : TrV n i_Flat_add [jo 0 o, ji v] σ Q := by
  refine wp_Flat_add ⟨ho, hl, ?_⟩
  by_cases q : rl σ 0 o ≤ rs σ 1 o
  · rw [if_pos q]
    refine ⟨⟨by omega, by omega⟩, fun s e => hq s ?_ ?_ ?_⟩
    · rw [e]; exact (sq.rf _ σ).pws 1 o _ (List.contains_iff_mem.mpr (by simp))
    · rw [e, rs_ws, if_pos ⟨rfl, rfl⟩]
    · rw [if_neg (by omega), e]; rfl
  · rw [if_neg q]
    refine ⟨h0, by omega, fun s e => ?_⟩
    rw [show rs s 1 o = rs σ 1 o by rw [e]; rfl]
    refine ⟨⟨by omega, by omega⟩, fun s2 e2 => hq s2 ?_ ?_ ?_⟩
    · rw [e2, e]; exact ((sq.rf _ σ).pwa 0 o _ _ (List.contains_iff_mem.mpr (by simp))).pws 1 o _ (List.contains_iff_mem.mpr (by simp))
    · rw [e2, rs_ws, if_pos ⟨rfl, rfl⟩]
    · rw [if_pos (by omega), e2, e]
      show (if (0 : Nat) = 0 ∧ o = o then _ else _) = _
      rw [if_pos ⟨rfl, rfl⟩]
theorem c_nameOf {Q : Int → jS → Prop} {O : List Int} (hm : cln σ) (hO : rs σ 9014 0 = (O.length : Nat)) (ho : ordr (ra σ 9011 0) O) (hl : O.length ≤ 100) (hq : ∀ σ1 (r : Int), sq [(9011, 0), (9014, 0)] σ σ1 → 0 ≤ r → r ≤ 100 → (O.length < 100 → r = (ixo O (-1 - u) : Nat) ∧ rs σ1 9014 0 = ((if -1 - u ∈ O then O else O ++ [-1 - u]).length : Nat) ∧ ordr (ra σ1 9011 0) (if -1 - u ∈ O then O else O ++ [-1 - u])) → Q r σ1) : TrI n i_Terms_nameOf [jo 9 0, ji u] σ Q := by
  have l11 := cln_at hm 9011 0 100 (by decide)
  have loop : ∀ (j k : Nat), k + j = ixo O (-1 - u) → J n c_Terms_nameOf (some .int) 2 [some (jo 9 0), some (ji u), some (ji (k : Nat))] [] σ (qI Q) := by
    intro j
    induction j with
    | zero =>
      intro k hk
      rw [Nat.add_zero] at hk
      rw [hk]
      have hle := ixo_le O (-1 - u)
      refine wp_Terms_nameOf_2 ⟨by omega, ?_⟩
      by_cases q : -1 - u ∈ O
      · have := ixo_lt q
        rw [if_neg (by omega)]
        refine ⟨by omega, by omega, by omega, ?_⟩
        rw [if_neg (fun w => w (by rw [ho _ _ (ixo_get q)]; omega))]
        refine hq σ _ (sq.rf _ σ) (by omega) (by omega) (fun _ => ⟨rfl, ?_, ?_⟩)
        · rw [if_pos q]; exact hO
        · rw [if_pos q]; exact ho
      · have e := ixo_not q
        rw [if_pos (by omega)]
        refine ⟨by omega, ?_⟩
        by_cases q2 : O.length = 100
        · rw [if_pos (by omega)]
          exact ⟨⟨by omega, by omega⟩, hq σ (rs σ 9014 0 - 1) (sq.rf _ σ) (by omega) (by omega) (fun w => absurd w (by omega))⟩
        · rw [if_neg (by omega)]
          refine ⟨by omega, by omega, fun s4 e4 => ?_⟩
          rw [show rs s4 9014 0 = (O.length : Nat) by rw [e4]; exact hO]
          refine ⟨⟨by omega, by omega⟩, fun s8 e8 => ?_⟩
          have r8 : rs s8 9014 0 = (O.length : Nat) + 1 := by rw [e8, rs_ws, if_pos ⟨rfl, rfl⟩]
          rw [r8]
          refine ⟨⟨by omega, by omega⟩, hq s8 ((O.length : Nat) + 1 - 1) ?_ (by omega) (by omega) (fun _ => ⟨by omega, ?_, ?_⟩)⟩
          · rw [e8, e4]; exact ((sq.rf _ σ).pwa 9011 0 _ _ (by decide)).pws 9014 0 _ (by decide)
          · rw [r8, if_neg q, List.length_append]; simp
          · rw [if_neg q]
            have : ra s8 9011 0 = upI (ra σ 9011 0) (O.length : Nat) u := by rw [e8, e4, hO]; rfl
            rw [this]
            exact ordr_up ho
    | succ j ih =>
      intro k hk
      have hkl : k < O.length := by
        by_cases q : -1 - u ∈ O
        · have := ixo_lt q; omega
        · have := ixo_not q; omega
      have hO2 : O[k]? = some O[k] := List.getElem?_eq_getElem hkl
      refine wp_Terms_nameOf_2 ⟨by omega, ?_⟩
      rw [if_neg (by omega)]
      refine ⟨by omega, by omega, by omega, ?_⟩
      rw [if_pos (by rw [ho k _ hO2]; have := ixo_bef (t := -1 - u) (by omega) hO2; omega)]
      exact ⟨⟨by omega, by omega⟩, ih (k + 1) (by omega)⟩
  exact wp_Terms_nameOf (loop (ixo O (-1 - u)) 0 (by omega))
theorem c_pushParts1 {Q : jS → Prop} (hn : 2 ≤ n) (h : cT σ g N β) (x0 : 0 ≤ x) (x1 : x < N) {P : List Int} (e1 : rs σ 9012 0 = (P.length : Nat)) (e2 : stk (ra σ 9008 0) P) (hP : P.length ≤ 1000) (hq : ∀ σ', sq [(9008, 0), (9012, 0)] σ σ' → rs σ' 9012 0 = ((pud (gp g x) 0 (pN (gh g x)) P).length : Nat) → stk (ra σ' 9008 0) (pud (gp g x) 0 (pN (gh g x)) P) → Q σ') : TrV n i_Terms_pushParts [jo 9 0, ji x] σ Q := by
  have hz := h.1.2.1
  have p3 := pN_3 hz x0 x1
  have loop : ∀ (k j : Nat) (σ1 : jS), k + j = pN (gh g x) → sq [(9008, 0), (9012, 0)] σ σ1 → rs σ1 9012 0 = ((pud (gp g x) k j P).length : Nat) → stk (ra σ1 9008 0) (pud (gp g x) k j P) → J n c_Terms_pushParts none 11 [some (jo 9 0), some (ji x), some (ji ((k : Nat) - 1))] [] σ1 (qV Q) := by
    intro k
    induction k with
    | zero =>
      intro j σ1 hk f1 f2 f3
      refine wp_Terms_pushParts_11 ?_
      rw [if_pos (by omega)]
      rw [Nat.zero_add] at hk
      rw [hk] at f2 f3
      exact hq σ1 f1 f2 f3
    | succ k ih =>
      intro j σ1 hk f1 f2 f3
      have h1 := h.sq f1 (by decide)
      have hlen := pud_len (gp g x) (k + 1) j P
      refine wp_Terms_pushParts_11 ?_
      rw [show (((k + 1 : Nat) : Int) - 1) = (k : Nat) by omega, if_neg (by omega)]
      refine ⟨by omega, by omega, c_part h1.1 x0 x1 (by omega) (c_pushOpen h1.1.1 (by omega) (by omega) ⟨⟨by omega, by omega⟩, ?_⟩)⟩
      refine ih (j + 1) _ (by omega) ((f1.pwa 9008 0 _ _ (by decide)).pws 9012 0 _ (by decide)) ?_ ?_
      · rw [rs_ws, if_pos ⟨rfl, rfl⟩, f2, pud_s, List.length_cons]; omega
      · rw [f2, pud_s]
        exact stk_up f3
  refine wp_Terms_pushParts ⟨by omega, by omega, c_signOf h.1 x0 x1 (c_fparts2 hz x0 x1 ⟨⟨by omega, by omega⟩, ?_⟩)⟩
  exact loop (pN (gh g x)) 0 σ (by omega) (sq.rf _ σ) e1 e2
/-- what has been told so far -/
def fst0 (σ1 : jS) (o : Int) (D : List Int) : Prop := rs σ1 1 o = (D.length : Nat) ∧ (∀ j : Nat, j < D.length → j < 100 → ra σ1 0 o j = cc ((cno [] D).getD j 0)) ∧ (D.length ≤ 100 → rs σ1 9014 0 = ((cnoS [] D).length : Nat) ∧ ordr (ra σ1 9011 0) (cnoS [] D))
theorem c_fl21 {Q : jS → Prop} (hn : 3 ≤ n) (h : cT σ g N β) (ha : acy g N β) (ho : 0 ≤ o) (hol : rl σ 0 o = 100) {L : List Int} (hq : ∀ σ1, sq (fF o) σ σ1 → fR σ1 o L → Q σ1) : ∀ (M : Nat) (W D : List Int) (σ1 : jS), 101 - D.length ≤ M → D.length ≤ 101 → W.length ≤ 1 + 2 * D.length → (∀ a, a ∈ W → 0 ≤ a ∧ a < N) → L = D ++ wlk g N β W → sq (fF o) σ σ1 → stk (ra σ1 9008 0) W → rs σ1 9012 0 = (W.length : Nat) → fst0 σ1 o D → J n c_Terms_flatten none 21 [some (jo 9 0), none, some (jo 0 o), some (ji (D.length : Nat)), none] [] σ1 (qV Q) := by
  have hz := h.1.2.1
  have hb := h.1.2.2.1
  have hend : ∀ (W D : List Int) (σ1 : jS), L = D ++ wlk g N β W → (W = [] ∧ D.length ≤ 100 ∨ D.length = 101) → sq (fF o) σ σ1 → fst0 σ1 o D → Q σ1 := by
    intro W D σ1 hL hD f1 hf
    refine hq σ1 f1 ⟨?_, fun j hj hj2 => ?_⟩
    · rcases hD with ⟨e, hD⟩ | hD
      · have : L = D := by rw [hL, e]; exact List.append_nil D
        rw [this, if_pos hD]; exact hf.1
      · rw [if_neg (by rw [hL, List.length_append]; omega), hf.1]; omega
    · rcases hD with ⟨e, hD⟩ | hD
      · have : L = D := by rw [hL, e]; exact List.append_nil D
        rw [this] at hj ⊢
        exact hf.2.1 j hj hj2
      · rw [hf.2.1 j (by omega) hj2, hL, cno_pre j (by omega)]
  intro M
  induction M with
  | zero =>
    intro W D σ1 hM hD hW hWr hL f1 f2 f3 hf
    refine wp_Terms_flatten_21 ?_
    rw [if_pos (by omega)]
    exact hend W D σ1 hL (Or.inr (by omega)) f1 hf
  | succ M ih =>
    intro W D σ1 hM hD hW hWr hL f1 f2 f3 hf
    by_cases hD101 : D.length = 101
    · refine wp_Terms_flatten_21 ?_
      rw [if_pos (by omega)]
      exact hend W D σ1 hL (Or.inr hD101) f1 hf
    · cases W with
      | nil =>
        refine wp_Terms_flatten_21 ?_
        rw [if_neg (by omega)]
        refine ⟨by omega, ?_⟩
        rw [if_pos (by rw [f3]; simp)]
        exact hend [] D σ1 hL (Or.inl ⟨rfl, by omega⟩) f1 hf
      | cons a W =>
        obtain ⟨a0, a1⟩ := hWr a List.mem_cons_self
        have h1 := h.sq f1 rfl
        have hol1 : rl σ1 0 o = 100 := by rw [f1.nrl]; exact hol
        have hWr2 : ∀ b, b ∈ W → 0 ≤ b ∧ b < N := fun b hb => hWr b (List.mem_cons_of_mem _ hb)
        obtain ⟨i1, i2, i3, i4, -, -⟩ := sv_all hz hb ha a a0 a1
        obtain ⟨d1, d2, d3⟩ := hf
        rw [List.length_cons] at hW
        have hOl := cnoS_len D []
        rw [List.length_nil, Nat.zero_add] at hOl
        obtain ⟨d3, d4⟩ := d3 (by omega)
        have hLa : L = D ++ (ex g N β (sv g N β a) ++ wlk g N β W) := by
          rw [hL, i4]
          rfl
        refine wp_Terms_flatten_21 ?_
        rw [if_neg (by omega)]
        refine ⟨by omega, ?_⟩
        rw [if_neg (by rw [f3, List.length_cons]; omega)]
        refine ⟨by omega, c_popOpen h1.1.1 f3 f2 (by omega) ?_⟩
        generalize hs2 : ws σ1 9012 0 (W.length : Nat) = σ2
        have k2 : sq [(9012, 0)] σ1 σ2 := by rw [← hs2]; exact (sq.rf _ σ1).pws 9012 0 _ (by decide)
        have t2 : rs σ2 9012 0 = (W.length : Nat) := by rw [← hs2, rs_ws, if_pos ⟨rfl, rfl⟩]
        have h2 := h1.sq k2 (by decide)
        refine c_solved (by omega) h2.1 ha a0 a1 ?_
        generalize hy : sv g N β a = y at i1 i2 i3 i4 hLa ⊢
        refine ⟨ho, c_isUnknown (by omega) h2.1 i2 i3 ?_⟩
        have u1 : rs σ2 1 o = (D.length : Nat) := by rw [k2.nrs 1 o rfl]; exact d1
        have u2 : rl σ2 0 o = 100 := by rw [k2.nrl]; exact hol1
        have u3 : ra σ2 0 o = ra σ1 0 o := k2.nraf 0 o rfl
        by_cases q : gh g y = -1
        · rw [if_pos q, if_neg (by decide)]
          have ey : ex g N β y = [-1 - y] := ex_un hz hb ha i2 i3 q (i1 q)
          have hneg : (-1 - y : Int) < 0 := by omega
          have hD2 : (D ++ [-1 - y]).length = D.length + 1 := by simp
          refine c_nameOf (u := y) (O := cnoS [] D) h2.1.1 (by rw [k2.nrs 9014 0 (by decide)]; exact d3) (by rw [k2.nraf 9011 0 (by decide)]; exact d4) (by omega) (fun σ3 rr c1 c2 c3 c4 => ⟨⟨by omega, by omega⟩, ?_⟩)
          have v1 : rs σ3 1 o = (D.length : Nat) := by rw [c1.nrs 1 o rfl]; exact u1
          have v2 : rl σ3 0 o = 100 := by rw [c1.nrl]; exact u2
          refine c_add ho (by omega) (by omega) (by omega) (fun σ4 b1 b2 b3 => ?_)
          have k4 : sq (fF o) σ1 σ4 := (((k2.mo (l' := fF o) rfl).tr (c1.mo rfl)).tr (b1.mo (List.all_eq_true.mpr (fun p hp => List.contains_iff_mem.mpr (by
            rcases List.mem_cons.mp hp with w | w
            · rw [w]; simp [fF]
            · have : p = (1, o) := by simpa using w
              rw [this]; simp [fF])))))
          refine c_isUnknown (by omega) (h1.sq k4 rfl).1 i2 i3 ?_
          rw [if_pos q, if_pos (by decide)]
          refine ⟨⟨by omega, by omega⟩, ?_⟩
          have := ih W (D ++ [-1 - y]) σ4 (by omega) (by omega) (by omega) hWr2 (by rw [hLa, ey]; simp) (f1.tr k4) (stk_cong (fun i _ _ => by rw [b1.nra 9008 0 i rfl, c1.nra 9008 0 i rfl, k2.nra 9008 0 i rfl]) f2.2) (by rw [b1.nrs 9012 0 rfl, c1.nrs 9012 0 rfl]; exact t2) ⟨by rw [b2, v1, hD2]; omega, fun j hj hj2 => ?_, fun hle => ?_⟩
          · rw [hD2] at this
            exact this
          · rw [b3, v1, v2]
            by_cases w : j = D.length
            · have c5 := (c4 (by omega)).1
              rw [if_pos (by omega), w, cno_last, if_pos hneg]
              unfold upI cc
              rw [if_pos rfl, if_pos (by omega), c5]
              omega
            · rw [cno_get j (by omega), ← d2 j (by omega) hj2, ← u3, ← c1.nraf 0 o rfl]
              split
              · unfold upI
                rw [if_neg (by omega)]
              · rfl
          · rw [cnoS_last, if_pos hneg]
            obtain ⟨c5, c6, c7⟩ := c4 (by omega)
            refine ⟨by rw [b1.nrs 9014 0 rfl]; exact c6, ?_⟩
            rw [b1.nraf 9011 0 rfl]
            exact c7
        · rw [if_neg q, if_pos rfl]
          have hgy : 0 ≤ gh g y ∧ gh g y < 104 := by
            rcases (hz y i2 i3).1 with w | w
            · exact absurd w q
            · exact w
          have hD2 : (D ++ [gh g y]).length = D.length + 1 := by simp
          have hsg : sg g y = gh g y := if_neg q
          refine c_signOf h2.1 i2 i3 ?_
          rw [hsg]
          refine c_add ho (by omega) (by omega) (by omega) (fun σ4 b1 b2 b3 => ?_)
          have k4 : sq (fF o) σ1 σ4 := ((k2.mo (l' := fF o) rfl).tr (b1.mo (List.all_eq_true.mpr (fun p hp => List.contains_iff_mem.mpr (by
            rcases List.mem_cons.mp hp with w | w
            · rw [w]; simp [fF]
            · have : p = (1, o) := by simpa using w
              rw [this]; simp [fF])))))
          have h4 := h1.sq k4 rfl
          refine c_isUnknown (by omega) h4.1 i2 i3 ?_
          rw [if_neg q, if_neg (by decide)]
          have t4 : rs σ4 9012 0 = (W.length : Nat) := by rw [b1.nrs 9012 0 rfl]; exact t2
          refine c_pushParts1 (by omega) h4 i2 i3 t4 (stk_cong (fun i _ _ => by rw [b1.nra 9008 0 i rfl, k2.nra 9008 0 i rfl]) f2.2) (by omega) (fun σ5 e1 e2 e3 => ⟨⟨by omega, by omega⟩, ?_⟩)
          have p3 := pN_3 hz i2 i3
          have := ih (pud (gp g y) 0 (pN (gh g y)) W) (D ++ [gh g y]) σ5 (by omega) (by omega) (by rw [pud_len]; omega) (fun b hb2 => ?_) (by rw [hLa, wlk_pud, ex_con hz hb ha i2 i3 q]; simp) (f1.tr (k4.tr (e1.mo rfl))) e3 e2 ⟨by rw [e1.nrs 1 o rfl, b2, u1, hD2]; omega, fun j hj hj2 => ?_, fun hle => ?_⟩
          · rw [hD2] at this
            exact this
          · rcases pud_mem.mp hb2 with ⟨k, hk, e⟩ | w
            · have := (hz y i2 i3).2 k hk
              rw [e]; omega
            · exact hWr2 b w
          · rw [e1.nraf 0 o rfl, b3, u1, u2]
            by_cases w : j = D.length
            · rw [if_pos (by omega), w, cno_last, if_neg (by omega)]
              unfold upI cc
              rw [if_pos rfl, if_neg (by omega)]
            · rw [cno_get j (by omega), ← d2 j (by omega) hj2, ← u3]
              split
              · unfold upI
                rw [if_neg (by omega)]
              · rfl
          · rw [cnoS_last, if_neg (by omega)]
            refine ⟨by rw [e1.nrs 9014 0 rfl, b1.nrs 9014 0 rfl, k2.nrs 9014 0 rfl]; exact d3, ?_⟩
            rw [e1.nraf 9011 0 rfl, b1.nraf 9011 0 rfl, k2.nraf 9011 0 rfl]
            exact d4
/-- a type as a row -/
theorem c_flatten {Q : jS → Prop} (hn : 3 ≤ n) (h : cT σ g N β) (ha : acy g N β) (ho : 0 ≤ o) (hol : rl σ 0 o = 100) (x0 : 0 ≤ x) (x1 : x < N) (hq : ∀ σ1, sq (fF o) σ σ1 → fR σ1 o (ex g N β x) → Q σ1) : TrV n i_Terms_flatten [jo 9 0, ji x, jo 0 o] σ Q := by
  refine wp_Terms_flatten ⟨ho, by omega, wp_Flat_clear ⟨ho, fun s2 e2 => ⟨by omega, fun s3 e3 s7 e7 => ?_⟩⟩⟩
  have f7 : sq (fF o) σ s7 := by
    rw [e7, e3, e2]
    exact (((sq.rf _ σ).pws 1 o _ (List.contains_iff_mem.mpr (by simp [fF]))).pws 9012 0 _ (List.contains_iff_mem.mpr (by simp [fF]))).pws 9014 0 _ (List.contains_iff_mem.mpr (by simp [fF]))
  have h7 := h.sq f7 rfl
  have r7 : rs s7 9012 0 = 0 := by rw [e7, rs_ws, if_neg (by decide), e3, rs_ws, if_pos ⟨rfl, rfl⟩]
  refine c_pushOpen h7.1.1 (by omega) (by omega) ?_
  rw [r7]
  refine c_fl21 hn h ha ho hol hq _ [x] [] _ (Nat.le_refl _) (by simp) (by simp) (fun a ha' => ?_) ?_ ((f7.pwa 9008 0 _ _ (List.contains_iff_mem.mpr (by simp [fF]))).pws 9012 0 _ (List.contains_iff_mem.mpr (by simp [fF]))) ?_ ?_ ⟨?_, fun j hj => absurd hj (Nat.not_lt_zero j), fun _ => ⟨?_, fun i a hi => (by simp [cnoS] at hi)⟩⟩
  · have : a = x := by simpa using ha'
    rw [this]; exact ⟨x0, x1⟩
  · unfold wlk; simp
  · exact stk_up (P := []) trivial
  · rw [rs_ws, if_pos ⟨rfl, rfl⟩]; rfl
  · rw [rs_ws, if_neg (fun w => absurd w.1 (by decide))]
    show rs s7 1 o = 0
    rw [e7, rs_ws, if_neg (fun w => absurd w.1 (by decide)), e3, rs_ws, if_neg (fun w => absurd w.1 (by decide)), e2, rs_ws, if_pos ⟨rfl, rfl⟩]
  · rw [rs_ws, if_neg (by decide)]
    show rs s7 9014 0 = 0
    rw [e7, rs_ws, if_pos ⟨rfl, rfl⟩]
end ZF
