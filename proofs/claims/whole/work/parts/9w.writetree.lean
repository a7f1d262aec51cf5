/-! The tree, written. -/
def trW : List zN → List Int → List Int
  | [], _ => []
  | z :: t, st => 103 :: (nmW z.1 ++ (if z.2.2.2.2.2.1 ≤ 0 then (clW st).1 ++ trW t (clW st).2 else 40 :: trW t (z.2.2.2.2.2.1 :: st)))
theorem trW_0 {z : zN} {t : List zN} {st : List Int} (h : z.2.2.2.2.2.1 ≤ 0) : trW (z :: t) st = 103 :: (nmW z.1 ++ ((clW st).1 ++ trW t (clW st).2)) := by
  show 103 :: (nmW z.1 ++ (if z.2.2.2.2.2.1 ≤ 0 then _ else _)) = _
  rw [if_pos h]
theorem trW_1 {z : zN} {t : List zN} {st : List Int} (h : ¬ z.2.2.2.2.2.1 ≤ 0) : trW (z :: t) st = 103 :: (nmW z.1 ++ (40 :: trW t (z.2.2.2.2.2.1 :: st))) := by
  show 103 :: (nmW z.1 ++ (if z.2.2.2.2.2.1 ≤ 0 then _ else _)) = _
  rw [if_neg h]
theorem trW_len : ∀ (t : List zN) (st : List Int), (trW t st).length ≤ 5 * t.length + st.length := by
  intro t
  induction t with
  | nil => intro st; show 0 ≤ _; omega
  | cons z t ih =>
    intro st
    have h1 := nmW_len z.1
    have h2 := clW_len st
    by_cases q : z.2.2.2.2.2.1 ≤ 0
    · rw [trW_0 q]
      have := ih (clW st).2
      rw [List.length_cons, List.length_append, List.length_append, List.length_cons]
      omega
    · rw [trW_1 q]
      have := ih (z.2.2.2.2.2.1 :: st)
      rw [List.length_cons] at this
      rw [List.length_cons, List.length_append, List.length_cons, List.length_cons]
      omega
theorem clW_form : ∀ st : List Int, (clW st).1 = List.replicate (st.length - (clW st).2.length) 41 ++ (if (clW st).2 = [] then [] else [44]) ∧ (clW st).2.length ≤ st.length := by
  intro st
  induction st with
  | nil => exact ⟨rfl, Nat.le_refl _⟩
  | cons s st ih =>
    unfold clW
    by_cases q : s - 1 ≤ 0
    · rw [if_pos q]
      obtain ⟨h1, h2⟩ := ih
      refine ⟨?_, by show (clW st).2.length ≤ (s :: st).length; rw [List.length_cons]; omega⟩
      show 41 :: (clW st).1 = List.replicate ((s :: st).length - (clW st).2.length) 41 ++ (if (clW st).2 = [] then [] else [44])
      rw [List.length_cons, show st.length + 1 - (clW st).2.length = (st.length - (clW st).2.length) + 1 by omega, List.replicate_succ, List.cons_append, ← h1]
    · rw [if_neg q]
      refine ⟨?_, Nat.le_refl _⟩
      show [44] = List.replicate ((s :: st).length - ((s - 1) :: st).length) 41 ++ (if (s - 1) :: st = [] then [] else [44])
      rw [List.length_cons, List.length_cons, Nat.sub_self, if_neg (by simp)]
      rfl
/-- what waits, in groups: all but the first have one of theirs under way -/
def loG (dep : Int → Int) : List Int → List Int → Prop
  | ps, [] => ps = []
  | ps, s :: ss => ∃ q rest, 1 ≤ s ∧ ps = List.replicate (s - 1).toNat q ++ rest ∧ dep q = ((ss.length : Nat) : Int) ∧ loG dep rest ss
def tpG (dep : Int → Int) : List Int → List Int → Prop
  | ps, [] => ps = []
  | ps, s :: ss => ∃ q rest, 1 ≤ s ∧ ps = List.replicate s.toNat q ++ rest ∧ dep q = ((ss.length : Nat) : Int) ∧ loG dep rest ss
theorem lo_tp {dep : Int → Int} : ∀ {st ps : List Int}, loG dep ps st → tpG dep ps (clW st).2 := by
  intro st
  induction st with
  | nil => intro ps h; exact h
  | cons s st ih =>
    intro ps h
    obtain ⟨q, rest, h1, h2, h3, h4⟩ := h
    unfold clW
    by_cases qs : s - 1 ≤ 0
    · rw [if_pos qs]
      have : s = 1 := by omega
      rw [this] at h2
      have e : ps = rest := h2
      rw [e]
      exact ih h4
    · rw [if_neg qs]
      exact ⟨q, rest, by omega, h2, h3, h4⟩
section ZWt
variable {n : Nat} {σ0 σ σ1 : jS} {T : zT} {M : zM} {e a b k i : Int} {s : zS} {W : List zN} {c r w : List Int}
theorem c_ends {Q : jS → Prop} {m : Nat} (hn : 1 ≤ n) (hc : cln σ) (hw : cW σ w) (hl : w.length + m ≤ 2000) (hq : ∀ σ', sq wcF σ σ' → cW σ' (w ++ List.replicate m 41) → Q σ') : TrV n i_Written_addEnds [jo 11 0, ji ((m : Nat) : Int)] σ Q := by
  have loop : ∀ (d j : Nat) (s2 : jS), j + d = m → sq wcF σ s2 → cW s2 (w ++ List.replicate j 41) → J n c_Written_addEnds none 2 [some (jo 11 0), some (ji ((m : Nat) : Int)), some (ji ((j : Nat) : Int))] [] s2 (qV Q) := by
    intro d
    induction d with
    | zero =>
      intro j s2 hj e2 h2
      refine wp_Written_addEnds_2 ?_
      rw [if_pos (by omega)]
      rw [show j = m by omega] at h2
      exact hq s2 e2 h2
    | succ d ih =>
      intro j s2 hj e2 h2
      refine wp_Written_addEnds_2 ?_
      rw [if_neg (by omega)]
      refine ⟨by omega, hn, c_wadd (hc.sq e2) h2 (by rw [List.length_append, List.length_replicate]; omega) (fun s3 f3 h3 => ⟨⟨by omega, by omega⟩, ?_⟩)⟩
      rw [show ((j : Nat) : Int) + 1 = ((j + 1 : Nat) : Int) by omega]
      refine ih (j + 1) s3 (by omega) (e2.tr f3) ?_
      rw [List.replicate_succ', ← List.append_assoc]
      exact h3
  exact wp_Written_addEnds (loop m 0 σ (by omega) (sq.rf _ _) (by rw [List.replicate_zero, List.append_nil]; exact hw))
set_option maxRecDepth 8000 in
theorem c_addTree {Q : jS → Prop} (hn : 5 ≤ n) (hc : cln σ) (hC : cC σ) (h : cTr σ W) (hW : trK W) (hw : cW σ []) (hq : ∀ σ', sq wcF σ σ' → cW σ' (trW W []) → Q σ') : TrV n i_Written_addTree [jo 11 0, jo 3 1] σ Q := by
  have hl := hW.2.1
  have hTr : ∀ {s2 : jS}, sq wcF σ s2 → cTr s2 W := fun e2 => ⟨by rw [e2.nrs 6000 2 (by decide)]; exact h.1, treeW_cong (e2.nraf 6001 2 (by decide)) (e2.nraf 3001 1 (by decide)) (e2.nrs 3002 1 (by decide)) h.2.1, by
    unfold fok
    rw [e2.nrs 6000 2 (by decide), e2.nrl 6001 2, e2.nrs 3002 1 (by decide), e2.nrl 3001 1]
    exact h.2.2⟩
  have hCC : ∀ {s2 : jS}, sq wcF σ s2 → cC s2 := fun e2 => hC.fq (sq_r1 e2) (by decide)
  -- behind what stands between: the node k itself
  have at33 : ∀ (z : zN) (rest : List zN) (k : Nat) (st w : List Int) (s2 : jS), W.drop k = z :: rest → sq wcF σ s2 → cW s2 w → w.length + 3 ≤ 2000 → (∀ s9, sq wcF σ s9 → cW s9 (w ++ (103 :: nmW z.1)) → J n c_Written_addTree none 4 [some (jo 11 0), some (jo 3 1), some (ji (dpW W ((k : Nat) : Int))), some (ji (((k + 1 : Nat) : Int))), none] [] s9 (qV Q)) → J n c_Written_addTree none 33 [some (jo 11 0), some (jo 3 1), none, some (ji ((k : Nat) : Int)), some (ji (dpW W ((k : Nat) : Int)))] [] s2 (qV Q) := by
    intro z rest k st w s2 hd e2 h2 hwl hnx
    have hk : k < W.length := by
      rcases Nat.lt_or_ge k W.length with q | q
      · exact q
      · rw [List.drop_of_length_le q] at hd; cases hd
    have ez : W.getD k d0z = z := by
      rw [List.getD_eq_getElem?_getD, List.getElem?_eq_getElem hk]
      have := List.drop_eq_getElem_cons hk
      rw [hd] at this
      exact (List.cons.inj this).1.symm
    have hz := hW.2.2 z (by rw [← ez]; exact gd_mem hk)
    refine wp_Written_addTree_33 ⟨by omega, by omega, c_wadd (hc.sq e2) h2 (by omega) (fun s3 f3 h3 => ?_)⟩
    have e3 := e2.tr f3
    have hN := cTr_at (hTr e3) (k := ((k : Nat) : Int)) (by omega) (by omega)
    rw [cC_at (hCC e3) 3000 1 2 (by decide)]
    refine ⟨by omega, by omega, c_tget (c := 0) (hTr e3) (by omega) (by omega) (by omega) ?_⟩
    rw [show ((k : Nat) : Int) * 8 + ((0 : Nat) : Int) = ((k : Nat) : Int) * 8 + 0 by omega, hN.2.1, Int.toNat_natCast]
    have ez2 : (W.getD k (0, 0, 0, 0, 0, 0, 0, none)) = z := ez
    rw [ez2]
    refine c_wnum (by omega) (hc.sq e3) h3 (by rw [gd_len]; omega) hz.1 (by omega) (fun s9 f9 h9 => ⟨⟨by omega, by omega⟩, ?_⟩)
    rw [show ((k : Nat) : Int) + 1 = ((k + 1 : Nat) : Int) by omega]
    refine hnx s9 (e3.tr f9) ?_
    rw [List.append_assoc] at h9
    exact h9
  -- st: what stands open before the node k; z: that node, it is written
  have loop : ∀ (rest : List zN) (k : Nat) (st : List Int) (z : zN) (w : List Int) (us : List (Int × Int)) (s2 : jS), W.drop (k + 1) = rest → k + 1 + rest.length = W.length → sq wcF σ s2 → cW s2 w → dpW W ((k : Nat) : Int) = ((st.length : Nat) : Int) → st.length ≤ k → (upsW 0 [(-1, -1)] W).drop (k + 1) = upsW (((k + 1 : Nat) : Int)) us rest → rdA (rest.map arZ) us.length = some [] → tpG (dpW W) (us.map Prod.fst) (if z.2.2.2.2.2.1 ≤ 0 then (clW st).2 else z.2.2.2.2.2.1 :: st) → (∀ x, x ∈ st → 1 ≤ x) → w.length + 5 * rest.length + 2 + st.length ≤ 2000 → w ++ (if z.2.2.2.2.2.1 ≤ 0 then (clW st).1 ++ trW rest (clW st).2 else 40 :: trW rest (z.2.2.2.2.2.1 :: st)) = trW W [] → J n c_Written_addTree none 4 [some (jo 11 0), some (jo 3 1), some (ji (dpW W ((k : Nat) : Int))), some (ji (((k + 1 : Nat) : Int))), none] [] s2 (qV Q) := by
    intro rest
    induction rest with
    | nil =>
      intro k st z w us s2 hd hkl e2 h2 hdp hsk hU hrd htp hst hwl hWw
      rw [List.length_nil] at hkl
      have hus : us = [] := by
        cases us with
        | nil => rfl
        | cons u us => cases hrd
      subst hus
      refine wp_Written_addTree_4 ⟨by omega, by rw [cC_at (hCC e2) 3000 1 2 (by decide)]; omega, ?_⟩
      rw [cC_at (hCC e2) 3000 1 2 (by decide), (hTr e2).1, if_pos (by omega), hdp]
      refine ⟨by omega, by omega, c_ends (by omega) (hc.sq e2) h2 (by omega) (fun s5 f5 h5 => hq s5 (e2.tr f5) ?_)⟩
      rw [← hWw]
      by_cases qz : z.2.2.2.2.2.1 ≤ 0
      · rw [if_pos qz] at htp ⊢
        obtain ⟨g1, g2⟩ := clW_form st
        have hnil : (clW st).2 = [] := by
          cases hcc : (clW st).2 with
          | nil => rfl
          | cons x xs =>
            rw [hcc] at htp
            obtain ⟨q, rest, t1, t2, -⟩ := htp
            have : (List.map Prod.fst ([] : List (Int × Int))).length = (List.replicate x.toNat q ++ rest).length := by rw [t2]
            rw [List.length_append, List.length_replicate] at this
            simp at this
            omega
        rw [g1, hnil]
        show cW s5 (w ++ ((List.replicate (st.length - 0) 41 ++ []) ++ []))
        rw [List.append_nil, List.append_nil, Nat.sub_zero]
        exact h5
      · rw [if_neg qz] at htp
        obtain ⟨q, rest, t1, t2, -⟩ := htp
        have : (List.map Prod.fst ([] : List (Int × Int))).length = (List.replicate z.2.2.2.2.2.1.toNat q ++ rest).length := by rw [t2]
        rw [List.length_append, List.length_replicate] at this
        simp at this
        omega
    | cons z' rest ih =>
      intro k st z w us s2 hd hkl e2 h2 hdp hsk hU hrd htp hst hwl hWw
      rw [List.length_cons] at hkl hwl
      cases us with
      | nil => cases hrd
      | cons u us =>
        have hk1 : k + 1 < W.length := by omega
        have hlup : k + 1 < (upsW 0 [(-1, -1)] W).length := by rw [upsW_len]; exact hk1
        have eup : (upsW 0 [(-1, -1)] W).getD (k + 1) (-1, -1) = u := by
          rw [List.getD_eq_getElem?_getD, List.getElem?_eq_getElem hlup]
          have := List.drop_eq_getElem_cons hlup
          rw [hU] at this
          exact (List.cons.inj this).1.symm
        have eu1 : upT W (((k + 1 : Nat) : Int)) = u.1 := by unfold upT; rw [Int.toNat_natCast, eup]
        have hrg := upT_rng hW.1 (k := ((k + 1 : Nat) : Int)) (by omega) (by omega)
        have hds := dpW_s hW.1 hl (k := ((k + 1 : Nat) : Int)) (by omega) (by omega)
        rw [eu1] at hrg hds
        rw [if_neg (by omega)] at hds
        have hz' := hW.2.2 z' (by
          have := List.drop_eq_getElem_cons hk1
          rw [hd] at this
          rw [(List.cons.inj this).1]
          exact List.getElem_mem _)
        -- what stands open before the next node
        have hopen : ∃ st', st' = (if z.2.2.2.2.2.1 ≤ 0 then (clW st).2 else z.2.2.2.2.2.1 :: st) := ⟨_, rfl⟩
        obtain ⟨st', est⟩ := hopen
        rw [← est] at htp
        have hst' : ∀ x, x ∈ st' → 1 ≤ x := by
          intro x hx
          rw [est] at hx
          by_cases qz : z.2.2.2.2.2.1 ≤ 0
          · rw [if_pos qz] at hx
            have key : ∀ st : List Int, (∀ x, x ∈ st → 1 ≤ x) → ∀ x, x ∈ (clW st).2 → 1 ≤ x := by
              intro st
              induction st with
              | nil => intro _ x hx; cases hx
              | cons a st ih =>
                intro hh x hx
                unfold clW at hx
                by_cases q : a - 1 ≤ 0
                · rw [if_pos q] at hx
                  exact ih (fun y hy => hh y (List.mem_cons_of_mem _ hy)) x hx
                · rw [if_neg q] at hx
                  rcases List.mem_cons.mp hx with y | y
                  · omega
                  · exact hh x (List.mem_cons_of_mem _ y)
            exact key st hst x hx
          · rw [if_neg qz] at hx
            rcases List.mem_cons.mp hx with y | y
            · omega
            · exact hst x y
        cases st' with
        | nil =>
          have : (u :: us).map Prod.fst = [] := htp
          cases this
        | cons x ss =>
          obtain ⟨q, rest', t1, t2, t3, t4⟩ := htp
          have hxn : x.toNat = (x.toNat - 1) + 1 := by omega
          rw [hxn, List.replicate_succ, List.cons_append, List.map_cons] at t2
          obtain ⟨t5, t6⟩ := List.cons.inj t2
          have hdk : dpW W (((k + 1 : Nat) : Int)) = (((x :: ss).length : Nat) : Int) := by
            rw [hds, t5, t3, List.length_cons]; omega
          have hssl : (x :: ss).length ≤ k + 1 := by
            rw [est]
            by_cases qz : z.2.2.2.2.2.1 ≤ 0
            · rw [if_pos qz]
              have := (clW_form st).2
              omega
            · rw [if_neg qz, List.length_cons]; omega
          have hlo : loG (dpW W) (us.map Prod.fst) (x :: ss) := ⟨q, rest', t1, by rw [t6, show x.toNat - 1 = (x - 1).toNat by omega], t3, t4⟩
          -- the rest, from the node on
          have go : ∀ (w2 : List Int) (s3 : jS), sq wcF σ s3 → cW s3 w2 → w2 ++ trW (z' :: rest) (x :: ss) = trW W [] → w2.length + 5 * (rest.length + 1) + (x :: ss).length ≤ 2000 → J n c_Written_addTree none 33 [some (jo 11 0), some (jo 3 1), none, some (ji (((k + 1 : Nat) : Int))), some (ji (dpW W (((k + 1 : Nat) : Int))))] [] s3 (qV Q) := by
            intro w2 s3 e3 h3 hW2 hl2
            refine at33 z' rest (k + 1) [] w2 s3 hd e3 h3 (by omega) (fun s9 e9 h9 => ?_)
            refine ih (k + 1) (x :: ss) z' (w2 ++ (103 :: nmW z'.1)) ((List.range z'.2.2.2.2.2.1.toNat).map (fun j : Nat => (((k + 1 : Nat) : Int), (j : Int))) ++ us) s9 ?_ (by omega) e9 h9 hdk hssl ?_ ?_ ?_ hst' ?_ ?_
            · have := List.drop_eq_getElem_cons hk1
              rw [hd] at this
              exact (List.cons.inj this).2.symm
            · have := List.drop_eq_getElem_cons hlup
              rw [hU] at this
              exact (List.cons.inj this).2.symm
            · have : rdA (rest.map arZ) (us.length + arZ z') = some [] := hrd
              rw [List.length_append, List.length_map, List.length_range, Nat.add_comm]
              exact this
            · have emap : ((List.range z'.2.2.2.2.2.1.toNat).map (fun j : Nat => (((k + 1 : Nat) : Int), (j : Int))) ++ us).map Prod.fst = List.replicate z'.2.2.2.2.2.1.toNat (((k + 1 : Nat) : Int)) ++ us.map Prod.fst := by
                rw [List.map_append, List.map_map]
                congr 1
                refine List.eq_replicate_iff.mpr ⟨by rw [List.length_map, List.length_range], fun y hy => ?_⟩
                obtain ⟨j, -, ej⟩ := List.mem_map.mp hy
                exact ej.symm
              rw [emap]
              by_cases qz : z'.2.2.2.2.2.1 ≤ 0
              · rw [if_pos qz, show z'.2.2.2.2.2.1.toNat = 0 by omega, List.replicate_zero, List.nil_append]
                exact lo_tp hlo
              · rw [if_neg qz]
                exact ⟨_, _, by omega, rfl, hdk, hlo⟩
            · have h1 := nmW_len z'.1
              rw [List.length_append, List.length_cons]
              omega
            · rw [← hW2]
              by_cases qz : z'.2.2.2.2.2.1 ≤ 0
              · rw [if_pos qz, trW_0 qz, List.append_assoc]
                rfl
              · rw [if_neg qz, trW_1 qz, List.append_assoc]
                rfl
          refine wp_Written_addTree_4 ⟨by omega, by rw [cC_at (hCC e2) 3000 1 2 (by decide)]; omega, ?_⟩
          rw [cC_at (hCC e2) 3000 1 2 (by decide), (hTr e2).1, if_neg (by omega)]
          refine ⟨by omega, c_deepOf (by omega) (hCC e2) (hTr e2) hW (by omega) (by omega) ?_⟩
          rw [if_neg (by omega)]
          refine ⟨by omega, wp_Written_addBetween ?_⟩
          rw [hdk, hdp]
          by_cases qz : z.2.2.2.2.2.1 ≤ 0
          · rw [if_pos qz] at hWw est
            obtain ⟨g1, g2⟩ := clW_form st
            rw [← est] at g1 g2
            rw [if_pos (by omega)]
            refine ⟨by omega, ⟨by omega, by omega⟩, by omega, ?_⟩
            rw [show ((st.length : Nat) : Int) - (((x :: ss).length : Nat) : Int) = ((st.length - (x :: ss).length : Nat) : Int) by omega]
            refine c_ends (by omega) (hc.sq e2) h2 (by omega) (fun s4 f4 h4 => c_wadd ((hc.sq e2).sq f4) h4 (by rw [List.length_append, List.length_replicate]; rw [List.length_cons] at g2; omega) (fun s6 f6 h6 => ?_))
            rw [← hdk]
            refine go _ s6 ((e2.tr f4).tr f6) h6 ?_ ?_
            · rw [← hWw, g1, ← est, if_neg (by simp), List.append_assoc, List.append_assoc, List.append_assoc]
            · rw [List.length_append, List.length_append, List.length_replicate]
              rw [List.length_cons] at g2 ⊢
              show w.length + (st.length - (ss.length + 1)) + 1 + 5 * (rest.length + 1) + (ss.length + 1) ≤ 2000
              omega
          · rw [if_neg qz] at hWw est
            have exs : x = z.2.2.2.2.2.1 ∧ ss = st := List.cons.inj est
            rw [if_neg (by rw [exs.2, List.length_cons]; omega)]
            refine ⟨by omega, by omega, c_wadd (hc.sq e2) h2 (by omega) (fun s6 f6 h6 => ?_)⟩
            rw [← hdk]
            refine go _ s6 (e2.tr f6) h6 ?_ ?_
            · rw [← hWw, exs.1, exs.2, List.append_assoc]
              rfl
            · rw [List.length_append, List.length_cons, exs.2]
              show w.length + 1 + 5 * (rest.length + 1) + (st.length + 1) ≤ 2000
              omega
  -- the first node
  refine wp_Written_addTree ?_
  have hk := hW.1
  cases hWe : W with
  | nil => rw [hWe] at hk; cases hk
  | cons z rest =>
    have hwl : W.length = rest.length + 1 := by rw [hWe, List.length_cons]
    have t30 := cC_at hC 3000 1 2 (by decide)
    have hd0 := dpW_s hW.1 hl (k := 0) (by omega) (by omega)
    rw [upT_0 hW.1, if_pos rfl] at hd0
    refine wp_Written_addTree_4 ⟨by omega, by omega, ?_⟩
    rw [t30, h.1, if_neg (by omega)]
    refine ⟨by omega, c_deepOf (by omega) hC h hW (by omega) (by omega) ?_⟩
    rw [if_pos (by omega)]
    have := at33 z rest 0 [] [] σ (by rw [hWe]; rfl) (sq.rf _ _) hw (by decide) (fun s9 e9 h9 => ?_)
    · exact this
    · refine loop rest 0 [] z (103 :: nmW z.1) ((List.range z.2.2.2.2.2.1.toNat).map (fun j : Nat => (((0 : Nat) : Int), (j : Int))) ++ []) s9 (by rw [hWe]; rfl) (by omega) e9 h9 hd0 (Nat.le_refl _) (by rw [hWe]; rfl) ?_ ?_ (fun x hx => by cases hx) ?_ ?_
      · have hrd : rdA (rest.map arZ) (0 + arZ z) = some [] := by rw [hWe] at hk; exact hk
        rw [List.length_append, List.length_map, List.length_range, List.length_nil, Nat.add_comm]
        exact hrd
      · have emap : ((List.range z.2.2.2.2.2.1.toNat).map (fun j : Nat => (((0 : Nat) : Int), (j : Int))) ++ []).map Prod.fst = List.replicate z.2.2.2.2.2.1.toNat (0 : Int) ++ [] := by
          rw [List.map_append, List.map_map]
          congr 1
          refine List.eq_replicate_iff.mpr ⟨by rw [List.length_map, List.length_range], fun y hy => ?_⟩
          obtain ⟨j, -, ej⟩ := List.mem_map.mp hy
          exact ej.symm
        rw [emap]
        by_cases qz : z.2.2.2.2.2.1 ≤ 0
        · rw [if_pos qz, show z.2.2.2.2.2.1.toNat = 0 by omega]
          exact rfl
        · rw [if_neg qz]
          exact ⟨0, [], by omega, rfl, hd0, rfl⟩
      · have h1 := nmW_len z.1
        rw [List.length_cons, List.length_nil]
        omega
      · rw [hWe]
        by_cases qz : z.2.2.2.2.2.1 ≤ 0
        · rw [if_pos qz, trW_0 qz]
          rfl
        · rw [if_neg qz, trW_1 qz]
          rfl
end ZWt
