/-! A row is written. -/
theorem wrW_0 {t : Int} {r st : List Int} (h : pN t = 0) : wrW (t :: r) st = sgW t ++ ((clW st).1 ++ wrW r (clW st).2) := if_pos h
theorem wrW_1 {t : Int} {r st : List Int} (h : ¬ pN t = 0) : wrW (t :: r) st = sgW t ++ (40 :: wrW r (((pN t : Nat) : Int) :: st)) := if_neg h
section ZWf
variable {n : Nat} {σ0 σ σ1 : jS} {w st r : List Int} {b v t : Int}
set_option maxRecDepth 8000 in
theorem c_addFlat {Q : jS → Prop} {o : Int} (hn : 4 ≤ n) (hc : cln σ) (hf : fT σ o r) (hl : r.length ≤ 100) (ht : ∀ t, t ∈ r → -2600 ≤ t ∧ t < 104) (hw : cW σ []) (hq : ∀ σ', sq ((11002, 0) :: wcF) σ σ' → cW σ' (wrW r []) → Q σ') : TrV n i_Written_addFlat [jo 11 0, jo 0 o] σ Q := by
  have o0 := hf.1
  have loop : ∀ (rest : List Int) (i : Nat) (st w : List Int) (s2 : jS), r.drop i = rest → i + rest.length = r.length → sq ((11002, 0) :: wcF) σ s2 → cW s2 w → stk (ra s2 11002 0) st → (∀ s, s ∈ st → 1 ≤ s ∧ s ≤ 1000) → st.length ≤ i → w.length + 5 * rest.length + st.length ≤ 2000 → w ++ wrW rest st = wrW r [] → J n c_Written_addFlat none 4 [some (jo 11 0), some (jo 0 o), some (ji ((st.length : Nat) : Int)), some (ji ((i : Nat) : Int)), none] [] s2 (qV Q) := by
    intro rest
    induction rest with
    | nil =>
      intro i st w s2 hd hi e2 h2 hs hp hsi hwl hW
      rw [List.length_nil, Nat.add_zero] at hi
      have hf2 : fT s2 o r := hf.sq e2 (by decide)
      refine wp_Written_addFlat_4 ⟨o0, ?_⟩
      rw [hf2.2.1, if_pos (by omega)]
      refine hq s2 e2 ?_
      rw [← hW]
      show cW s2 (w ++ [])
      rw [List.append_nil]
      exact h2
    | cons t rest ih =>
      intro i st w s2 hd hi e2 h2 hs hp hsi hwl hW
      obtain ⟨g1, g2, g3⟩ := gd_drop hd
      rw [List.length_cons] at hi hwl
      have hf2 : fT s2 o r := hf.sq e2 (by decide)
      have m2 : cln s2 := hc.sq e2
      have htt : -2600 ≤ t ∧ t < 104 := by rw [← g2]; exact ht _ (getD_mem g1)
      have s3l := sgW_len t
      have cl := clW_len st
      refine wp_Written_addFlat_4 ⟨o0, ?_⟩
      rw [hf2.2.1, if_neg (by omega)]
      refine ⟨by omega, by omega, c_at hf2 g1 ?_⟩
      rw [g2]
      refine c_wsign (by omega) m2 h2 (by omega) htt.1 htt.2 (fun s6 f6 h6 => ?_)
      have e6 : sq ((11002, 0) :: wcF) σ s6 := e2.tr (f6.mo (by decide))
      have hf6 : fT s6 o r := hf.sq e6 (by decide)
      have m6 : cln s6 := hc.sq e6
      have k6 : stk (ra s6 11002 0) st := by rw [f6.nraf 11002 0 (by decide)]; exact hs
      refine wp_Flat_partsAt ⟨o0, by omega, c_at hf6 g1 ?_⟩
      rw [g2]
      have parts : ∀ (K : Int → jS → Prop), K ((pN t : Nat) : Int) s6 → TrI (n - 1 - 1) i_Flat_partsOf [ji (cc t)] s6 K := fun K hK => by
        by_cases q : 0 ≤ t
        · rw [show cc t = t from if_neg (by omega)]
          refine c_fparts q (by omega) ?_
          rw [if_neg (by omega)]
          exact hK
        · rw [show cc t = 103 - t from if_pos (by omega)]
          refine wp_Flat_partsOf ?_
          rw [if_neg (by omega), if_neg (by omega)]
          have : pN t = 0 := by unfold pN; rw [if_pos (by omega)]
          rw [this] at hK
          exact hK
      refine parts _ ?_
      by_cases qp : pN t = 0
      · rw [wrW_0 qp] at hW
        rw [if_pos (by omega)]
        refine wp_Written_close (c_wclose (by omega) st (w ++ sgW t) s6 m6 h6 k6 hp (by rw [List.length_append]; omega) (by omega) (fun s10 f10 h10 k10 p10 => ⟨⟨by omega, by omega⟩, ?_⟩))
        rw [show ((i : Nat) : Int) + 1 = ((i + 1 : Nat) : Int) by omega]
        refine ih (i + 1) (clW st).2 (w ++ sgW t ++ (clW st).1) s10 g3 (by omega) (e6.tr (f10.mo (by decide))) h10 k10 p10 (by omega) (by rw [List.length_append, List.length_append]; omega) ?_
        rw [← hW, List.append_assoc, List.append_assoc]
      · rw [wrW_1 qp] at hW
        have l02 := cln_at m6 11002 0 101 (by decide)
        rw [if_neg (by omega), l02, if_neg (by omega)]
        refine ⟨by omega, c_wadd m6 h6 (by rw [List.length_append]; omega) (fun s17 f17 h17 => ?_)⟩
        rw [f17.nrl 11002 0, l02]
        refine ⟨by omega, by omega, by omega, fun s20 e20 => ⟨⟨by omega, by omega⟩, ⟨by omega, by omega⟩, ?_⟩⟩
        have f20 : sq [(11002, 0)] s17 s20 := by rw [e20]; exact (sq.rf _ s17).pwa 11002 0 _ _ (by decide)
        have r20 : ra s20 11002 0 = upI (ra s17 11002 0) ((st.length : Nat) : Int) ((pN t : Nat) : Int) := by
          rw [e20]
          unfold wa
          rw [raf_wA, if_pos ⟨rfl, rfl⟩]
        clear e20
        rw [show ((i : Nat) : Int) + 1 = ((i + 1 : Nat) : Int) by omega, show ((st.length : Nat) : Int) + 1 = (((((pN t : Nat) : Int) :: st).length : Nat) : Int) by rw [List.length_cons]; omega]
        have hpt : pN t ≤ 3 := by unfold pN; split <;> omega
        refine ih (i + 1) (((pN t : Nat) : Int) :: st) (w ++ sgW t ++ [40]) s20 g3 (by omega) ((e6.tr (f17.mo (by decide))).tr (f20.mo (by decide))) (h17.sq f20 (by decide)) (by rw [r20, f17.nraf 11002 0 (by decide)]; exact stk_up k6) (fun x hx => ?_) (by rw [List.length_cons]; omega) (by rw [List.length_append, List.length_append, List.length_cons, List.length_cons, List.length_nil]; omega) ?_
        · rcases List.mem_cons.mp hx with y | y
          · rw [y]; omega
          · exact hp x y
        · rw [← hW, List.append_assoc, List.append_assoc]
          rfl
  exact wp_Written_addFlat (loop r 0 [] [] σ rfl (by omega) (sq.rf _ _) hw trivial (fun s h => by cases h) (Nat.le_refl _) (by show 0 + 5 * r.length + 0 ≤ 2000; omega) rfl)
/-- what flat holds is written -/
theorem c_writeFlat {Q : Int → jS → Prop} (hn : 5 ≤ n) (hc : cln σ) (hC : cC σ) (hf : fT σ 1 r) (hl : r.length ≤ 100) (ht : ∀ t, t ∈ r → -2600 ≤ t ∧ t < 104) (hq : ∀ σ', sq ((11002, 0) :: wcF) σ σ' → cW σ' (wrW r []) → Q (((wrW r []).length : Nat) : Int) σ') : TrI n i_Top_writeFlat [jo 12 0] σ Q := by
  have t123 := cC_at hC 12003 0 1 (by decide)
  have t124 := cC_at hC 12004 0 0 (by decide)
  refine wp_Top_writeFlat ⟨by omega, ?_⟩
  rw [t123, t124, hf.2.1]
  refine ⟨by omega, ?_⟩
  rw [if_pos (by omega)]
  refine ⟨by omega, by omega, wp_Written_clear ⟨by omega, fun s2 e2 => ?_⟩⟩
  have f2 : sq [(11000, 0)] σ s2 := by rw [e2]; exact (sq.rf _ σ).pws 11000 0 _ (by decide)
  have r2 : rs s2 11000 0 = 0 := by rw [e2, rs_ws, if_pos ⟨rfl, rfl⟩]
  clear e2
  rw [f2.nrs 12003 0 (by decide), f2.nrs 12004 0 (by decide), t123, t124]
  refine ⟨by omega, c_addFlat (by omega) (hc.sq f2) (hf.sq f2 (by decide)) hl ht ⟨r2, fun i hi => absurd hi (by simp)⟩ (fun s8 f8 h8 => ?_)⟩
  have f08 : sq ((11002, 0) :: wcF) σ s8 := (f2.mo (by decide)).tr f8
  rw [f08.nrs 12004 0 (by decide), t124, h8.1]
  exact ⟨by omega, hq s8 f08 h8⟩
set_option maxRecDepth 8000 in
theorem t_writeRow {Q : Int → jS → Prop} {F : Nat} {p0 : Int} (hn : 3 ≤ n) (hm : mln σ) (hj : jt F = 0) (hjm : jmv F = false) (hF : ¬ F = 1132 ∧ ¬ F = 1133 ∧ ¬ F = 1134) (hA : rwA σ F p0 r) (hb : rl σ F 0 ≤ 1000000) (hl : r.length ≤ 100) (ht : ∀ t, t ∈ r → -2600 ≤ t ∧ t < 104) (hq : ∀ σ', sq ((1134, 0) :: wmF) σ σ' → mW σ' (wrW r []) → Q (((wrW r []).length : Nat) : Int) σ') : TrI n i_Model_writeRow [jo 1 0, ja F 0, ji p0, ji ((r.length : Nat) : Int)] σ Q := by
  obtain ⟨p00, p01, hA⟩ := hA
  have nF : ((1134, 0) :: wmF).contains (F, (0 : Int)) = false := by
    unfold wmF
    simp [hF.1, hF.2.1, hF.2.2]
  have loop : ∀ (rest : List Int) (i : Nat) (st w : List Int) (s2 : jS), r.drop i = rest → i + rest.length = r.length → sq ((1134, 0) :: wmF) σ s2 → mW s2 w → stk (ra s2 1134 0) st → (∀ s, s ∈ st → 1 ≤ s ∧ s ≤ 1000) → st.length ≤ i → w.length + 5 * rest.length + st.length ≤ 2000 → w ++ wrW rest st = wrW r [] → J n c_Model_writeRow (some .int) 11 [some (jo 1 0), some (ja F 0), some (ji p0), some (ji ((r.length : Nat) : Int)), some (ji ((st.length : Nat) : Int)), some (ji (p0 + ((i : Nat) : Int))), none] [] s2 (qI Q) := by
    intro rest
    induction rest with
    | nil =>
      intro i st w s2 hd hi e2 h2 hs hp hsi hwl hW
      rw [List.length_nil, Nat.add_zero] at hi
      refine wp_Model_writeRow_11 ⟨⟨by omega, by omega⟩, ?_⟩
      rw [if_pos (by omega)]
      have : mW s2 (wrW r []) := by
        rw [← hW]
        show mW s2 (w ++ [])
        rw [List.append_nil]
        exact h2
      rw [this.1]
      exact ⟨by omega, hq s2 e2 this⟩
    | cons t rest ih =>
      intro i st w s2 hd hi e2 h2 hs hp hsi hwl hW
      obtain ⟨g1, g2, g3⟩ := gd_drop hd
      rw [List.length_cons] at hi hwl
      have m2 : mln s2 := hm.sq e2
      have htt : -2600 ≤ t ∧ t < 104 := by rw [← g2]; exact ht _ (getD_mem g1)
      have s3l := sgW_len t
      have cl := clW_len st
      have vt : ra s2 F 0 (p0 + ((i : Nat) : Int)) = t := by rw [e2.nra F 0 _ nF, hA i g1]; exact g2
      have hpt : pN t ≤ 3 := by unfold pN; split <;> omega
      have at78 : ∀ s6, sq wmF s2 s6 → mW s6 (w ++ sgW t) → J n c_Model_writeRow (some .int) 78 [some (jo 1 0), some (ja F 0), some (ji p0), some (ji ((r.length : Nat) : Int)), some (ji ((st.length : Nat) : Int)), some (ji (p0 + ((i : Nat) : Int))), some (ji t)] [] s6 (qI Q) := by
        intro s6 f6 h6
        have e6 : sq ((1134, 0) :: wmF) σ s6 := e2.tr (f6.mo (by decide))
        have m6 : mln s6 := hm.sq e6
        have k6 : stk (ra s6 1134 0) st := by rw [f6.nraf 1134 0 (by decide)]; exact hs
        have parts : ∀ (s : jS) (K : Int → jS → Prop), K ((pN t : Nat) : Int) s → TrI (n - 1) i_Model_partsOf [ji t] s K := fun s K hK => by
          refine wp_Model_partsOf ?_
          by_cases q : 0 ≤ t
          · rw [if_pos q]
            have : ((pN t : Nat) : Int) = t % 4 := by unfold pN; rw [if_neg (by omega)]; omega
            rw [this] at hK
            exact ⟨q, hK⟩
          · rw [if_neg q]
            have : pN t = 0 := by unfold pN; rw [if_pos (by omega)]
            rw [this] at hK
            exact hK
        refine wp_Model_writeRow_78 ⟨by omega, hjm, parts _ _ ?_⟩
        by_cases qp : pN t = 0
        · rw [wrW_0 qp] at hW
          rw [if_pos (by omega)]
          refine ⟨by omega, wp_Model_closeAll (t_closeAll (by omega) st (w ++ sgW t) s6 m6 h6 k6 hp (by rw [List.length_append]; omega) (by omega) (fun s10 f10 h10 k10 p10 => ⟨⟨by omega, by omega⟩, ?_⟩))⟩
          rw [show p0 + ((i : Nat) : Int) + 1 = p0 + ((i + 1 : Nat) : Int) by omega]
          refine ih (i + 1) (clW st).2 (w ++ sgW t ++ (clW st).1) s10 g3 (by omega) (e6.tr (f10.mo (by decide))) h10 k10 p10 (by omega) (by rw [List.length_append, List.length_append]; omega) ?_
          rw [← hW, List.append_assoc, List.append_assoc]
        · rw [wrW_1 qp] at hW
          have l34 := mln_at m6 1134 220 (by decide)
          rw [if_neg (by omega)]
          refine ⟨by omega, t_put m6 h6 (by rw [List.length_append]; omega) (by omega) (by omega) (fun s17 f17 h17 => ?_)⟩
          rw [f17.nrl 1134 0, l34]
          refine ⟨by omega, parts _ _ ?_⟩
          rw [f17.nrl 1134 0, l34]
          refine ⟨by omega, by omega, fun s20 e20 => ⟨⟨by omega, by omega⟩, ⟨by omega, by omega⟩, ?_⟩⟩
          have f20 : sq [(1134, 0)] s17 s20 := by rw [e20]; exact (sq.rf _ s17).pwa 1134 0 _ _ (by decide)
          have r20 : ra s20 1134 0 = upI (ra s17 1134 0) ((st.length : Nat) : Int) ((pN t : Nat) : Int) := by
            rw [e20]
            unfold wa
            rw [raf_wA, if_pos ⟨rfl, rfl⟩]
          clear e20
          rw [show p0 + ((i : Nat) : Int) + 1 = p0 + ((i + 1 : Nat) : Int) by omega, show ((st.length : Nat) : Int) + 1 = (((((pN t : Nat) : Int) :: st).length : Nat) : Int) by rw [List.length_cons]; omega]
          refine ih (i + 1) (((pN t : Nat) : Int) :: st) (w ++ sgW t ++ [40]) s20 g3 (by omega) ((e6.tr (f17.mo (by decide))).tr (f20.mo (by decide))) (h17.sq f20 (by decide)) (by rw [r20, f17.nraf 1134 0 (by decide)]; exact stk_up k6) (fun x hx => ?_) (by rw [List.length_cons]; omega) (by rw [List.length_append, List.length_append, List.length_cons, List.length_cons, List.length_nil]; omega) ?_
          · rcases List.mem_cons.mp hx with y | y
            · rw [y]; omega
            · exact hp x y
          · rw [← hW, List.append_assoc, List.append_assoc]
            rfl
      refine wp_Model_writeRow_11 ⟨⟨by omega, by omega⟩, ?_⟩
      rw [if_neg (by omega), vt, e2.nrl F 0]
      refine ⟨hj, by omega, by omega, ?_⟩
      by_cases q : t < 0
      · rw [if_pos q]
        refine ⟨by omega, ⟨by omega, by omega⟩, by omega, ⟨by omega, by omega⟩, by omega, hjm, t_put m2 h2 (by omega) (by omega) (by omega) (fun s12 f12 h12 => ⟨⟨by omega, by omega⟩, ?_⟩)⟩
        have es : sgW t = (97 + (-1 - t) % 26) :: (if -1 - t < 26 then [] else nmW ((-1 - t) / 26)) := if_neg (by omega)
        by_cases q2 : -1 - t < 26
        · rw [if_pos q2]
          rw [if_pos q2] at es
          exact at78 s12 f12 (by rw [es]; exact h12)
        · rw [if_neg q2]
          rw [if_neg q2] at es
          refine ⟨by omega, t_num (by omega) (hm.sq (e2.tr (f12.mo (by decide)))) h12 (by rw [gd_len]; omega) (by omega) (by omega) (fun s16 f16 h16 => at78 s16 (f12.tr f16) ?_)⟩
          rw [es]
          rw [List.append_assoc] at h16
          exact h16
      · rw [if_neg q]
        have es : sgW t = [65 + t / 4] := if_pos (by omega)
        exact ⟨by omega, by omega, ⟨by omega, by omega⟩, by omega, hjm, t_put m2 h2 (by omega) (by omega) (by omega) (fun s12 f12 h12 => at78 s12 f12 (by rw [es]; exact h12))⟩
  refine wp_Model_writeRow ⟨by omega, fun s2 e2 => ?_⟩
  have f2 : sq [(1133, 0)] σ s2 := by rw [e2]; exact (sq.rf _ σ).pws 1133 0 _ (by decide)
  have r2 : rs s2 1133 0 = 0 := by rw [e2, rs_ws, if_pos ⟨rfl, rfl⟩]
  have := loop r 0 [] [] s2 rfl (by omega) (f2.mo (by decide)) ⟨r2, fun i hi => absurd hi (by simp)⟩ trivial (fun s h => by cases h) (Nat.le_refl _) (by show 0 + 5 * r.length + 0 ≤ 2000; omega) rfl
  rw [show p0 + ((0 : Nat) : Int) = p0 by omega] at this
  exact this
end ZWf
