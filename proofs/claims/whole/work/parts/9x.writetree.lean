/-! The tree, written: both. -/
section ZWx
variable {n : Nat} {σ0 σ σ1 : jS} {T : zT} {M : zM} {e a b k i : Int} {s : zS} {W : List zN} {c r w : List Int}
theorem c_writeTree {Q : Int → jS → Prop} (hn : 6 ≤ n) (hc : cln σ) (hC : cC σ) (h : cTr σ W) (hp : W = [] ∨ trK W)
    (hq0 : W = [] → Q (-1) σ) (hq1 : ¬ W = [] → ∀ σ', sq wcF σ σ' → cW σ' (trW W []) → Q (((trW W []).length : Nat) : Int) σ') : TrI n i_Top_writeTree [jo 12 0] σ Q := by
  have t14 := cC_at hC 12014 0 1 (by decide)
  have t30 := cC_at hC 3000 1 2 (by decide)
  have t124 := cC_at hC 12004 0 0 (by decide)
  refine wp_Top_writeTree ⟨by omega, by omega, by rw [t14, t30]; omega, ?_⟩
  rw [t14, t30, h.1, t124]
  by_cases q : W = []
  · rw [if_neg (fun w => w (by rw [q]; rfl))]
    exact hq0 q
  · have hW : trK W := hp.resolve_left q
    have hpos : 0 < W.length := by
      cases hW : W with
      | nil => exact absurd hW q
      | cons z t => rw [List.length_cons]; omega
    rw [if_pos (by omega)]
    refine ⟨by omega, by omega, wp_Written_clear ⟨by omega, fun s2 e2 => ?_⟩⟩
    have f2 : sq [(11000, 0)] σ s2 := by rw [e2]; exact (sq.rf _ σ).pws 11000 0 _ (by decide)
    have r2 : rs s2 11000 0 = 0 := by rw [e2, rs_ws, if_pos ⟨rfl, rfl⟩]
    clear e2
    have C2 : cC s2 := hC.fq (sq_r1 f2) (by decide)
    have Tr2 : cTr s2 W := ⟨by rw [f2.nrs 6000 2 (by decide)]; exact h.1, treeW_cong (f2.nraf 6001 2 (by decide)) (f2.nraf 3001 1 (by decide)) (f2.nrs 3002 1 (by decide)) h.2.1, by
      unfold fok
      rw [f2.nrs 6000 2 (by decide), f2.nrl 6001 2, f2.nrs 3002 1 (by decide), f2.nrl 3001 1]
      exact h.2.2⟩
    rw [cC_at C2 12004 0 0 (by decide), cC_at C2 12014 0 1 (by decide)]
    refine ⟨by omega, c_addTree (by omega) (hc.sq f2) C2 Tr2 hW ⟨r2, fun i hi => absurd hi (by simp)⟩ (fun s9 f9 h9 => ?_)⟩
    rw [cC_at (C2.fq (sq_r1 f9) (by decide)) 12004 0 0 (by decide), h9.1]
    exact ⟨by omega, hq1 q s9 ((f2.mo (by decide)).tr f9) h9⟩
set_option maxRecDepth 8000 in
theorem t_writeTree {Q : Int → jS → Prop} (hn : 4 ≤ n) (hm : mln σ) (hA : aPm σ e s W a b c r k) (hp : aPp T e W c r k)
    (hq0 : W = [] → Q (-1) σ) (hq1 : ¬ W = [] → ∀ σ', sq ((1134, 0) :: wmF) σ σ' → mW σ' (trW W []) → Q (((trW W []).length : Nat) : Int) σ') : TrI n i_Model_writeTree [jo 1 0] σ Q := by
  have l12 := mln_at hm 1112 9 (by decide)
  have v0 : ra σ 1112 0 0 = e := hA.2.1 0 (by omega)
  refine wp_Model_writeTree ⟨by omega, by omega, wp_Model_wasFound ⟨by omega, ?_⟩⟩
  rw [hA.1, if_neg (by decide), l12, v0]
  refine ⟨by omega, by omega, ?_⟩
  by_cases q : e = 0
  · rw [if_neg (fun h => h q), if_pos (by decide)]
    have hW := hp.2.2.1 q
    have hl := hW.2.1
    have hne : ¬ W = [] := fun w => by rw [w] at hW; cases hW.1
    intro s5 e5
    have f5 : sq [(1133, 0)] σ s5 := by rw [e5]; exact (sq.rf _ σ).pws 1133 0 _ (by decide)
    have r5 : rs s5 1133 0 = 0 := by rw [e5, rs_ws, if_pos ⟨rfl, rfl⟩]
    clear e5
    have hT := hA.2.2.1
    have loop : ∀ (rest : List zN) (j : Nat) (st w : List Int) (s2 : jS), W.drop j = rest → j + rest.length = W.length → sq ((1134, 0) :: wmF) σ s2 → mW s2 w → stk (ra s2 1134 0) st → (∀ s, s ∈ st → 1 ≤ s ∧ s ≤ 1000) → st.length ≤ j → w.length + 5 * rest.length + st.length ≤ 2000 → w ++ trW rest st = trW W [] → J n c_Model_writeTree (some .int) 18 [some (jo 1 0), some (ji ((st.length : Nat) : Int)), some (ji ((j : Nat) : Int))] [] s2 (qI Q) := by
      intro rest
      induction rest with
      | nil =>
        intro j st w s2 hd hj e2 h2 hs hp2 hsj hwl hWw
        rw [List.length_nil, Nat.add_zero] at hj
        refine wp_Model_writeTree_18 ⟨by omega, ?_⟩
        rw [e2.nrs 1126 0 (by decide), hT.1, if_pos (by omega)]
        have : mW s2 (trW W []) := by
          rw [← hWw]
          show mW s2 (w ++ [])
          rw [List.append_nil]
          exact h2
        rw [this.1]
        exact hq1 hne s2 e2 this
      | cons z rest ih =>
        intro j st w s2 hd hj e2 h2 hs hp2 hsj hwl hWw
        rw [List.length_cons] at hj hwl
        have hjW : j < W.length := by omega
        have hdc := List.drop_eq_getElem_cons hjW
        rw [hd] at hdc
        obtain ⟨hz1, hz2⟩ := List.cons.inj hdc
        have ez : W.getD j d0z = z := by
          rw [List.getD_eq_getElem?_getD, List.getElem?_eq_getElem hjW]
          exact hz1.symm
        have hz := hW.2.2 z (by rw [hz1]; exact List.getElem_mem _)
        have hN := hT.2 j hjW
        unfold nodeR at hN
        rw [ez] at hN
        obtain ⟨-, -, n3, -, -, -, -, n8, -⟩ := hN
        have n1l := nmW_len z.1
        have cl := clW_len st
        refine wp_Model_writeTree_18 ⟨by omega, ?_⟩
        rw [e2.nrs 1126 0 (by decide), hT.1, if_neg (by omega)]
        have l16 := mln_at hm 1116 200 (by decide)
        have l21 := mln_at hm 1121 200 (by decide)
        refine ⟨by omega, t_put (hm.sq e2) h2 (by omega) (by omega) (by omega) (fun s3 f3 h3 => ?_)⟩
        have e3 : sq ((1134, 0) :: wmF) σ s3 := e2.tr (f3.mo (by decide))
        rw [e3.nrl 1116 0, l16, e3.nra 1116 0 _ (by decide), n3]
        refine ⟨by omega, by omega, by omega, t_num (by omega) (hm.sq e3) h3 (by rw [gd_len]; omega) hz.1 (by omega) (fun s8 f8 h8 => ?_)⟩
        have e8 : sq ((1134, 0) :: wmF) σ s8 := e3.tr (f8.mo (by decide))
        have h8 : mW s8 (w ++ (103 :: nmW z.1)) := by
          rw [List.append_assoc] at h8
          exact h8
        have k8 : stk (ra s8 1134 0) st := by rw [f8.nraf 1134 0 (by decide), f3.nraf 1134 0 (by decide)]; exact hs
        rw [e8.nrl 1121 0, l21, e8.nra 1121 0 _ (by decide), n8]
        refine ⟨by omega, by omega, ?_⟩
        have hwl2 : (w ++ (103 :: nmW z.1)).length ≤ w.length + 3 := by rw [List.length_append, List.length_cons]; omega
        by_cases qz : z.2.2.2.2.2.1 ≤ 0
        · rw [trW_0 qz] at hWw
          rw [if_pos qz]
          refine wp_Model_closeAll (t_closeAll (by omega) st (w ++ (103 :: nmW z.1)) s8 (hm.sq e8) h8 k8 hp2 (by omega) (by omega) (fun s12 f12 h12 k12 p12 => ⟨⟨by omega, by omega⟩, ?_⟩))
          rw [show ((j : Nat) : Int) + 1 = ((j + 1 : Nat) : Int) by omega]
          refine ih (j + 1) (clW st).2 (w ++ (103 :: nmW z.1) ++ (clW st).1) s12 hz2.symm (by omega) (e8.tr (f12.mo (by decide))) h12 k12 p12 (by omega) (by rw [List.length_append]; omega) ?_
          rw [← hWw, List.append_assoc, List.append_assoc]
          rfl
        · rw [trW_1 qz] at hWw
          rw [if_neg qz]
          refine t_put (hm.sq e8) h8 (by omega) (by omega) (by omega) (fun s15 f15 h15 => ?_)
          have e15 : sq ((1134, 0) :: wmF) σ s15 := e8.tr (f15.mo (by decide))
          have l34 := mln_at hm 1134 220 (by decide)
          rw [e15.nrl 1134 0, e15.nrl 1121 0, l34, l21, e15.nra 1121 0 _ (by decide), n8]
          refine ⟨by omega, by omega, by omega, by omega, by omega, fun s20 e20 => ⟨⟨by omega, by omega⟩, ⟨by omega, by omega⟩, ?_⟩⟩
          have f20 : sq [(1134, 0)] s15 s20 := by rw [e20]; exact (sq.rf _ s15).pwa 1134 0 _ _ (by decide)
          have r20 : ra s20 1134 0 = upI (ra s15 1134 0) ((st.length : Nat) : Int) z.2.2.2.2.2.1 := by
            rw [e20]
            unfold wa
            rw [raf_wA, if_pos ⟨rfl, rfl⟩]
          clear e20
          rw [show ((j : Nat) : Int) + 1 = ((j + 1 : Nat) : Int) by omega, show ((st.length : Nat) : Int) + 1 = (((z.2.2.2.2.2.1 :: st).length : Nat) : Int) by rw [List.length_cons]; omega]
          refine ih (j + 1) (z.2.2.2.2.2.1 :: st) (w ++ (103 :: nmW z.1) ++ [40]) s20 hz2.symm (by omega) (e15.tr (f20.mo (by decide))) (h15.sq f20 (by decide)) (by rw [r20, f15.nraf 1134 0 (by decide)]; exact stk_up k8) (fun x hx => ?_) (by rw [List.length_cons]; omega) (by rw [gd_len, List.length_cons]; omega) ?_
          · rcases List.mem_cons.mp hx with y | y
            · rw [y]; omega
            · exact hp2 x y
          · rw [← hWw, List.append_assoc, List.append_assoc]
            rfl
    have := loop W 0 [] [] s5 rfl (by omega) (f5.mo (by decide)) ⟨r5, fun i hi => absurd hi (by simp)⟩ trivial (fun s h => by cases h) (Nat.le_refl _) (by show 0 + 5 * W.length + 0 ≤ 2000; omega) rfl
    exact this
  · rw [if_pos q, if_neg (by decide)]
    exact hq0 (hp.2.2.2.1 q)
end ZWx
