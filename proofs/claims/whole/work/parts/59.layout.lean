/-! A type's things, its letters named by their order: the reference, as a whole. -/
theorem List_split_at {D L : List Int} {m : Nat} (h : D.length = m) : (D ++ L).take m = D := by
  rw [List.take_append_of_le_length (by omega), ← h, List.take_length]
theorem ixo_le (s : List Int) (t : Int) : ixo s t ≤ s.length := by
  by_cases w : t ∈ s
  · exact Nat.le_of_lt (ixo_lt w)
  · exact Nat.le_of_eq (ixo_not w)
section ZO2
variable {n : Nat} {σ : jS} {g : zH} {N : Int} {β : List (Int × Int)} {x u t : Int}
theorem cno_get {D : List Int} {v : Int} (i : Nat) (h : i < D.length) : (cno [] (D ++ [v])).getD i 0 = (cno [] D).getD i 0 := by
  rw [cno_app]
  show ((cno [] D ++ _)[i]?).getD 0 = ((cno [] D)[i]?).getD 0
  rw [List.getElem?_append_left (by rw [cno_len]; exact h)]
theorem cno_last {D : List Int} {v : Int} : (cno [] (D ++ [v])).getD D.length 0 = if v < 0 then -1 - ((ixo (cnoS [] D) v : Nat) : Int) else v := by
  rw [cno_app]
  show ((cno [] D ++ _)[D.length]?).getD 0 = _
  rw [List.getElem?_append_right (by rw [cno_len]; exact Nat.le_refl _), cno_len, Nat.sub_self, cno_cons]
  split <;> rfl
theorem cnoS_last {D : List Int} {v : Int} : cnoS [] (D ++ [v]) = if v < 0 then (if v ∈ cnoS [] D then cnoS [] D else cnoS [] D ++ [v]) else cnoS [] D := by
  rw [cnoS_app, cnoS_cons]
  rfl
theorem t_out24 {Q : Int → jS → Prop} (hn : 1 ≤ n) (h : mT σ g N β) (ha : acy g N β) {L : List Int} (hq : ∀ σ1, sq oF σ σ1 → laid σ1 (L.take 100) → Q (if L.length ≤ 100 then (L.length : Nat) else 101) σ1) : ∀ (M : Nat) (W D : List Int) (σ1 : jS), 100 - D.length ≤ M → D.length ≤ 100 → W.length ≤ 1 + 2 * D.length → (∀ a, a ∈ W → 0 ≤ a ∧ a < N) → L = D ++ wlk g N β W → sq oF σ σ1 → stk (ra σ1 1039 0) W → laid σ1 D → J n c_Model_layOut (some .int) 24 [some (jo 1 0), none, some (ji (W.length : Nat)), none, none, none] [] σ1 (qI Q) := by
  have hz := h.2.1
  have hb := h.2.2.1
  -- nothing is left
  have hnil : ∀ (D : List Int) (σ1 : jS), D.length ≤ 100 → L = D ++ wlk g N β [] → sq oF σ σ1 → laid σ1 D → J n c_Model_layOut (some .int) 24 [some (jo 1 0), none, some (ji (([] : List Int).length : Nat)), none, none, none] [] σ1 (qI Q) := by
    intro D σ1 hD hL f1 hl
    have e : L = D := by rw [hL]; exact List.append_nil D
    refine wp_Model_layOut_24 ?_
    rw [if_pos (by simp)]
    refine ⟨by omega, ?_⟩
    have := hq σ1 f1 (by rw [e, List.take_of_length_le hD]; exact hl)
    rw [e, if_pos hD] at this
    rw [hl.1]
    exact this
  intro M
  induction M with
  | zero =>
    intro W D σ1 hM hD hW hWr hL f1 f2 hl
    cases W with
    | nil => exact hnil D σ1 hD hL f1 hl
    | cons a W =>
      obtain ⟨a0, a1⟩ := hWr a List.mem_cons_self
      have h1 := h.sq f1 (by decide)
      have l39 := mln_at h1.1 1039 4000 (by decide)
      have hD100 : D.length = 100 := by omega
      have e0 : (((a :: W).length : Nat) : Int) + (-1) = (W.length : Nat) := by rw [List.length_cons]; omega
      have hne := ex_ne hz hb ha a0 a1
      have hLl : ¬ L.length ≤ 100 := by
        rw [hL, List.length_append]
        unfold wlk
        rw [List.map_cons, List.flatten_cons, List.length_append]
        omega
      rw [List.length_cons] at hW
      refine wp_Model_layOut_24 ?_
      rw [e0, if_neg (by rw [List.length_cons]; omega)]
      refine ⟨⟨by omega, by omega⟩, by omega, by omega, by omega, by omega, hn, ?_⟩
      rw [f2.1]
      refine t_seen h1 ha a0 a1 ?_
      rw [hl.1, if_neg (by omega)]
      have := hq σ1 f1 (by rw [hL, List_split_at hD100]; exact hl)
      rw [if_neg hLl] at this
      exact this
  | succ M ih =>
    intro W D σ1 hM hD hW hWr hL f1 f2 hl
    cases W with
    | nil => exact hnil D σ1 hD hL f1 hl
    | cons a W =>
      by_cases hD100 : D.length = 100
      · -- as above
        obtain ⟨a0, a1⟩ := hWr a List.mem_cons_self
        have h1 := h.sq f1 (by decide)
        have l39 := mln_at h1.1 1039 4000 (by decide)
        have e0 : (((a :: W).length : Nat) : Int) + (-1) = (W.length : Nat) := by rw [List.length_cons]; omega
        have hne := ex_ne hz hb ha a0 a1
        have hLl : ¬ L.length ≤ 100 := by
          rw [hL, List.length_append]
          unfold wlk
          rw [List.map_cons, List.flatten_cons, List.length_append]
          omega
        rw [List.length_cons] at hW
        refine wp_Model_layOut_24 ?_
        rw [e0, if_neg (by rw [List.length_cons]; omega)]
        refine ⟨⟨by omega, by omega⟩, by omega, by omega, by omega, by omega, hn, ?_⟩
        rw [f2.1]
        refine t_seen h1 ha a0 a1 ?_
        rw [hl.1, if_neg (by omega)]
        have := hq σ1 f1 (by rw [hL, List_split_at hD100]; exact hl)
        rw [if_neg hLl] at this
        exact this
      · obtain ⟨a0, a1⟩ := hWr a List.mem_cons_self
        have h1 := h.sq f1 (by decide)
        have l39 := mln_at h1.1 1039 4000 (by decide)
        have l41 := mln_at h1.1 1041 101 (by decide)
        have l28 := mln_at h1.1 1028 40000 (by decide)
        have hN := h.2.2.2.2.2.1
        have e0 : (((a :: W).length : Nat) : Int) + (-1) = (W.length : Nat) := by rw [List.length_cons]; omega
        rw [List.length_cons] at hW
        have hWr2 : ∀ b, b ∈ W → 0 ≤ b ∧ b < N := fun b hb => hWr b (List.mem_cons_of_mem _ hb)
        obtain ⟨i1, i2, i3, i4, -, -⟩ := sv_all hz hb ha a a0 a1
        obtain ⟨d1, d2, d3, d4, d5⟩ := hl
        have hOl := cnoS_len D []
        rw [List.length_nil, Nat.zero_add] at hOl
        have hcl := cno_len D []
        have hLa : L = D ++ (ex g N β (sv g N β a) ++ wlk g N β W) := by
          rw [hL, i4]
          rfl
        refine wp_Model_layOut_24 ?_
        rw [e0, if_neg (by rw [List.length_cons]; omega)]
        refine ⟨⟨by omega, by omega⟩, by omega, by omega, by omega, by omega, hn, ?_⟩
        rw [f2.1]
        refine t_seen h1 ha a0 a1 ?_
        generalize hy : sv g N β a = y at i1 i2 i3 i4 hLa ⊢
        have g28 : ra σ1 1028 0 y = gh g y := h1.2.2.2.2.2.2.2.1 y i2 i3
        rw [d1, if_pos (by omega), g28]
        refine ⟨by omega, by omega, by omega, by omega, ?_⟩
        by_cases q : gh g y = -1
        · rw [if_neg (fun w => w q)]
          have ey : ex g N β y = [-1 - y] := ex_un hz hb ha i2 i3 q (i1 q)
          have hix := ixo_le (cnoS [] D) (-1 - y)
          refine t_orderOf (u := y) (O := cnoS [] D) h1.1 d3 d4 (by omega) (fun σ2 c1 c2 c3 => ?_)
          have l41' : rl σ2 1041 0 = 101 := by rw [c1.nrl]; exact l41
          refine wp_Model_var ⟨⟨by omega, by omega⟩, by omega, by omega, fun s32 e32 => ?_⟩
          have k32 : sq oF σ1 s32 := by rw [e32]; exact (c1.mo (by decide)).pwa 1041 0 _ _ (by decide)
          rw [show rs s32 1043 0 = (D.length : Nat) by rw [e32]; show rs σ2 1043 0 = _; rw [c1.nrs 1043 0 (by decide)]; exact d1]
          refine ⟨⟨by omega, by omega⟩, fun s36 e36 => ?_⟩
          have k36 : sq oF σ1 s36 := by rw [e36]; exact k32.pws 1043 0 _ (by decide)
          rw [k36.nrl 1028 0, k36.nraf 1028 0 (by decide), g28, if_neg (fun w => w q)]
          have hD2 : (D ++ [-1 - y]).length = D.length + 1 := by simp
          have hneg : (-1 - y : Int) < 0 := by omega
          refine ⟨by omega, by omega, ih W (D ++ [-1 - y]) s36 (by omega) (by omega) (by omega) hWr2 ?_ (f1.tr k36) (stk_cong (fun i _ _ => by rw [e36, e32]; show ra σ2 1039 0 i = _; rw [c1.nraf 1039 0 (by decide)]) f2.2) ?_⟩
          · rw [hLa, ey]
            simp
          · have a41 : ra s36 1041 0 = upI (ra σ1 1041 0) (D.length : Nat) (-1 - (ixo (cnoS [] D) (-1 - y) : Nat)) := by
              rw [e36, e32]
              show upI (ra σ2 1041 0) (D.length : Nat) _ = _
              rw [c1.nraf 1041 0 (by decide)]
            refine ⟨?_, fun i hi => ?_, ?_, ?_, ?_⟩
            · rw [e36, rs_ws, if_pos ⟨rfl, rfl⟩, hD2]; omega
            · rw [a41]
              unfold upI
              by_cases w : i = D.length
              · rw [if_pos (by omega), w, cno_last, if_pos hneg]
              · rw [if_neg (by omega), d2 i (by omega), cno_get i (by omega)]
            · rw [e36, e32, cnoS_last, if_pos hneg]
              exact c2
            · rw [e36, e32, cnoS_last, if_pos hneg]
              exact c3
            · have : rs s36 1045 0 = rs σ1 1045 0 := by
                rw [e36, e32]
                show rs σ2 1045 0 = _
                rw [c1.nrs 1045 0 (by decide)]
              rw [this]
              exact ltr_neg d5 hneg
        · rw [if_pos q]
          have hgy : 0 ≤ gh g y ∧ gh g y < 104 := by
            rcases (hz y i2 i3).1 with w | w
            · exact absurd w q
            · exact w
          refine ⟨by omega, by omega, fun s14 e14 => ?_⟩
          have k14 : sq oF σ1 s14 := by rw [e14]; exact (sq.rf _ σ1).pwa 1041 0 _ _ (by decide)
          rw [show rs s14 1043 0 = (D.length : Nat) by rw [e14]; exact d1]
          refine ⟨⟨by omega, by omega⟩, fun s18 e18 => ?_⟩
          have k18 : sq oF σ1 s18 := by rw [e18]; exact k14.pws 1043 0 _ (by decide)
          rw [k18.nrl 1028 0, k18.nraf 1028 0 (by decide), g28, if_pos q]
          refine ⟨by omega, by omega, by omega, fun s22 e22 => ?_⟩
          have k22 : sq oF σ1 s22 := by rw [e22]; exact k18.pws 1045 0 _ (by decide)
          rw [k22.nrl 1028 0, k22.nraf 1028 0 (by decide), g28]
          have p3 := pN_3 hz i2 i3
          refine ⟨by omega, by omega, t_partsOf (by omega) ⟨⟨by omega, by omega⟩, ?_⟩⟩
          have h22 := h1.sq k22 (by decide)
          have hD2 : (D ++ [gh g y]).length = D.length + 1 := by simp
          refine t_out149 hn h22 i2 i3 (pN (gh g y)) 0 s22 (by omega) (by omega) (sq.rf _ s22) (stk_cong (fun i _ _ => by rw [e22, e18, e14]; rfl) f2.2) (fun σ2 c1 c2 => ih _ (D ++ [gh g y]) σ2 (by omega) (by omega) (by rw [pud_len]; omega) (fun b hb2 => ?_) ?_ (f1.tr (k22.tr (c1.mo (by decide)))) c2 ?_)
          · rcases pud_mem.mp hb2 with ⟨k, hk, e⟩ | w
            · have := (hz y i2 i3).2 k hk
              rw [e]; omega
            · exact hWr2 b w
          · rw [hLa, wlk_pud, ex_con hz hb ha i2 i3 q]
            simp
          · have a41 : ra σ2 1041 0 = upI (ra σ1 1041 0) (D.length : Nat) (gh g y) := by
              rw [c1.nraf 1041 0 (by decide), e22, e18, e14]
              rfl
            refine ⟨?_, fun i hi => ?_, ?_, ?_, ?_⟩
            · rw [c1.nrs 1043 0 (by decide), e22, rs_ws, if_neg (by decide), e18, rs_ws, if_pos ⟨rfl, rfl⟩, hD2]
              omega
            · rw [a41]
              unfold upI
              by_cases w : i = D.length
              · rw [if_pos (by omega), w, cno_last, if_neg (by omega)]
              · rw [if_neg (by omega), d2 i (by omega), cno_get i (by omega)]
            · rw [c1.nrs 1044 0 (by decide), e22, e18, e14, cnoS_last, if_neg (by omega)]
              exact d3
            · rw [c1.nraf 1042 0 (by decide), e22, e18, e14, cnoS_last, if_neg (by omega)]
              exact d4
            · rw [c1.nrs 1045 0 (by decide), e22, rs_ws, if_pos ⟨rfl, rfl⟩]
              have : rs s18 1045 0 = rs σ1 1045 0 := by rw [e18, e14]; rfl
              rw [this]
              exact ltr_up d5 hgy.1 hgy.2
/-- the things of a type, up to a hundred; how many (101: more) -/
theorem t_layOut {Q : Int → jS → Prop} (hn : 1 ≤ n) (h : mT σ g N β) (ha : acy g N β) (x0 : 0 ≤ x) (x1 : x < N) (hq : ∀ σ1, sq oF σ σ1 → laid σ1 ((ex g N β x).take 100) → Q (if (ex g N β x).length ≤ 100 then ((ex g N β x).length : Nat) else 101) σ1) : TrI n i_Model_layOut [jo 1 0, ji x] σ Q := by
  have l39 := mln_at h.1 1039 4000 (by decide)
  refine wp_Model_layOut ⟨by omega, fun s2 e2 s3 e3 s4 e4 => ?_⟩
  have f4 : sq oF σ s4 := by rw [e4, e3, e2]; exact (((sq.rf _ σ).pws 1043 0 _ (by decide)).pws 1044 0 _ (by decide)).pws 1045 0 _ (by decide)
  rw [f4.nrl 1039 0]
  refine ⟨by omega, by omega, fun s6 e6 => ?_⟩
  have f6 : sq oF σ s6 := by rw [e6]; exact f4.pwa 1039 0 _ _ (by decide)
  refine t_out24 hn h ha hq _ [x] [] s6 (Nat.le_refl _) (by simp) (by simp) (fun a ha' => ?_) ?_ f6 ?_ ?_
  · have : a = x := by simpa using ha'
    rw [this]; exact ⟨x0, x1⟩
  · unfold wlk; simp
  · rw [e6]; exact stk_up (P := []) trivial
  · refine ⟨?_, fun i hi => absurd hi (Nat.not_lt_zero i), ?_, fun i a hi => (by simp [cnoS] at hi), ?_⟩
    · rw [e6, e4, e3, e2]; rfl
    · rw [e6, e4, e3, e2]; rfl
    · have : rs s6 1045 0 = 0 := by rw [e6, e4]; rfl
      rw [this]; exact ltr_nil
end ZO2
