/-! What an asking leaves to be told: the class. -/
noncomputable def askT (P : zP) (M : zM) (r : List Int) : List zN := if (askW P M r).2.1 = 0 then (match (askW P M r).2.2.1 with
  | none => []
  | some t => expT (sM (askW P M r).1) (t.map (kpt (rowE (hG (askW P M r).1) (hN (askW P M r).1) (hE (askW P M r).1))))) else []
def kpF9 : List (Nat × Int) := [(12011, 0), (12016, 0), (12017, 0), (0, 246), (1, 246), (7013, 0), (6000, 2), (6001, 2), (3001, 1), (3002, 1), (0, 243), (1, 243), (9008, 0), (9011, 0), (9012, 0), (9014, 0)]
section ZKe
variable {n : Nat} {σ0 σ σ1 σa σ' : jS} {P : zP} {M : zM} {r : List Int} {k : Int}
theorem memQ_of {M : zM} (h : memR σ M) : memQ σ M := by
  obtain ⟨h1, h2, h3, h4, h5, h6, h7, h8, h9, h10, h11, h12, h13⟩ := h
  exact ⟨by omega, h2, fun j hj => by
    obtain ⟨c1, c2, c3, c4, c5, c6, c7, c8, c9, c10, c11⟩ := h3 j hj
    exact ⟨c2, c3, c9, c10, c11⟩, by omega, ⟨by rw [h6]; exact memL_0 _, h7, h8, h9, h10, h11, h12⟩⟩
theorem askT_no (h : ¬ (askW P M r).2.1 = 0 ∨ (askW P M r).2.2.1 = none) : askT P M r = [] := by
  unfold askT
  by_cases q : (askW P M r).2.1 = 0
  · rw [if_pos q, h.resolve_left (fun w => w q)]
  · rw [if_neg q]
theorem askT_yes {t : List zI} (q : (askW P M r).2.1 = 0) (h : (askW P M r).2.2.1 = some t) : askT P M r = expT (sM (askW P M r).1) (t.map (kpt (rowE (hG (askW P M r).1) (hN (askW P M r).1) (hE (askW P M r).1)))) := by
  unfold askT
  rw [if_pos q, h]
theorem endE_0 : endE (askW P M r) = 0 ↔ (askW P M r).2.1 = 0 ∧ ∃ t, (askW P M r).2.2.1 = some t := by
  unfold endE
  by_cases q : (askW P M r).2.1 = 0
  · rw [if_pos q]
    cases h : (askW P M r).2.2.1 with
    | none => exact ⟨(fun w => by cases w), (fun w => by obtain ⟨-, t, e⟩ := w; cases e)⟩
    | some t => exact ⟨fun _ => ⟨q, t, rfl⟩, fun _ => rfl⟩
  · rw [if_neg q]
    exact ⟨fun w => absurd w q, fun w => absurd w.1 q⟩
/-- the tree that is told is whole -/
theorem askT_trK {t : List zI} (hT : tok P.1) (hM : gdM P.1 M) (hR : memR σ (sM (askW P M r).1)) (q : (askW P M r).2.1 = 0) (h : (askW P M r).2.2.1 = some t) (hw : rdA (t.map arI) 1 = some []) (hi : ∀ m : Nat, .inr m ∈ t → ¬ memT (sM (askW P M r).1) m = []) (hl : (expT (sM (askW P M r).1) t).length ≤ 200) : trK (askT P M r) := by
  have hg := ask_G (P := P) hT 21 [] (s00 r M) (x00 r) hM
  have hg1 : gdM P.1 (sM (askW P M r).1) := hg.1
  have hg2 : gdT P.1 t := hg.2 t h
  have hG := hT.2.2.2.1
  rw [askT_yes q h]
  refine ⟨exp_whole (by rw [arI_kpt]; exact hw) (fun m hm => ?_), by rw [expT_kpt]; exact hl, fun z hz => ?_⟩
  · have hne := hi m (kpt_inr hm)
    have hlt := (memT_ne2 (M' := []) hne).1
    have ho := (hR.2.2.1 m hlt).2.2.2.2.2.2.2.2.2.2
    rw [memT_at hlt] at hne ⊢
    exact ho.resolve_left hne
  · obtain ⟨a1, a2, a3, a4, a5⟩ := gd_exp (gd_kpt hg2) hg1 z hz
    have hN := (hT.2.2.2.2.2 z.1 a1 a2).2.2
    exact ⟨a1, by omega, by omega, by omega⟩
set_option maxRecDepth 8000 in
/-- what is told is kept apart -/
theorem c_keepAsking {Q : jS → Prop} (hn : 8 ≤ n) (hM : gdM P.1 M) (hr : rwk r) (hp : aPost P σa σ1 (s00 r M) [] [] (x00 r) [(-1, -1)] (askW P M r)) (ha60 : rs σa 6000 1 = 0) (hl : ∀ t, (askW P M r).2.2.1 = some t → 0 < (expT (sM (askW P M r).1) t).length ∧ (expT (sM (askW P M r).1) t).length ≤ 200) (f72 : sq [(7002, 0)] σ1 σ') (r72 : ra σ' 7002 0 = upI (ra σ1 7002 0) 0 (endE (askW P M r))) (hZ : cZ σ' P.1 (sM (askW P M r).1)) (g61 : gr3 (rl σ' 6001 2)) (g31 : 1 ≤ rl σ' 3001 1)
    (hq : ∀ s, cq kpF9 σ' s → cZ s P.1 (sM (askW P M r).1) → (∀ i : Nat, i < 9 → ra s 12011 0 ((i : Nat) : Int) = (tlW (endE (askW P M r)) (askW P M r).1 (askT P M r)).getD i 0) → cTr s (askT P M r) → (askT P M r = [] ∨ trK (askT P M r)) → (endE (askW P M r) = 0 → trK (askT P M r)) → ((askW P M r).2.1 = 2 → rs s 12016 0 = (askW P M r).2.2.2.1 ∧ rs s 12017 0 = (askW P M r).2.2.2.2.1 ∧ fT s 246 (askW P M r).2.2.2.2.2) → Q s) : TrV n i_Top_keepAsking [jo 12 0] σ' Q := by
  have hT := hZ.2.2.1.1
  have lk := lA_lok hr
  obtain ⟨o1, o2, o3, ⟨o4, o5⟩, o6, o7⟩ := s00_ok (M := M) lk hr
  obtain ⟨p1, p2, p3, p4, p5, p6, ⟨new, g', N', t1, t2, t3, t4⟩, p8⟩ := hp
  have hres := ask_R hT 21 [] (s00 r M) (x00 r) o2 o4 o5
  have hA200 : sA (askW P M r).1 ≤ 200 := hres.1.2.1
  have l02 := cln_at hZ.1 7002 0 9 (by decide)
  have l11 := cln_at hZ.1 12011 0 9 (by decide)
  have C0 := hZ.2.1
  have hcT : cT σ' g' N' (new ++ []) := t1.sq f72 (by decide)
  have e60 : rs σ' 6000 1 = rs σ1 6000 1 := f72.nrs 6000 1 (by decide)
  have e61 : ra σ' 6001 1 = ra σ1 6001 1 := f72.nraf 6001 1 (by decide)
  have e6l : rl σ' 6001 1 = rl σ1 6001 1 := f72.nrl 6001 1
  obtain ⟨y1, y2, y3, y4, y5⟩ := p2.2.2.2.2.1
  refine wp_Top_keepAsking ⟨by omega, by rw [cC_at C0 12007 0 0 (by decide)]; omega, ?_⟩
  rw [cC_at C0 12007 0 0 (by decide), l02, l11]
  refine ⟨by omega, by omega, by omega, by omega, by omega, fun s6 e6 => ?_⟩
  have f6 : sq [(12011, 0)] σ' s6 := by rw [e6]; exact (sq.rf _ σ').pwA 12011 0 _ (by decide)
  have r6 : ∀ i : Int, 0 ≤ i → i < 9 → ra s6 12011 0 i = ra σ' 7002 0 i := fun i i0 i1 => by
    rw [e6, raf_wA, if_pos ⟨rfl, rfl⟩]
    show (if 0 ≤ i ∧ i < 0 + 9 then ra σ' 7002 0 (0 + (i - 0)) else ra σ' 12011 0 i) = _
    rw [if_pos (by omega), show 0 + (i - 0) = i by omega]
  clear e6
  have C6 : cC s6 := C0.fq (sq_r1 f6) (by decide)
  rw [cC_at C6 12014 0 1 (by decide)]
  refine ⟨by omega, c_treeClear C6 (fun s10 f10 v60 v32 => ?_)⟩
  have f010 : sq [(12011, 0), (6000, 2), (3002, 1)] σ' s10 := (f6.mo (by decide)).tr (f10.mo (by decide))
  have C10 : cC s10 := C0.fq (sq_r1 f010) (by decide)
  have a10 : ∀ i : Int, 0 ≤ i → i < 9 → ra s10 12011 0 i = ra σ' 7002 0 i := fun i i0 i1 => by rw [f10.nra 12011 0 _ (by decide)]; exact r6 i i0 i1
  have b10 : ra s10 12011 0 0 = endE (askW P M r) := by rw [a10 0 (by omega) (by omega), r72]; unfold upI; rw [if_pos rfl]
  have fk10 : fok 2 1 s10 := ⟨by omega, by rw [v60, f010.nrl 6001 2]; unfold gr3 at g61; omega, by rw [f010.nrl 6001 2]; exact g61, by omega, by omega, by rw [v32, f010.nrl 3001 1]; omega, by rw [f010.nrl 3001 1]; exact g31⟩
  have K10 : cq kpF9 σ' s10 := (show cq [(12011, 0), (6000, 2), (3002, 1)] σ' s10 from f010.cq (by decide)).mo (by decide)
  have hk : ∀ p, p ∈ ((9004, 0) :: cTf : List (Nat × Int)) → kpF9.contains p = false := by decide
  have cT46 : ∀ s15, cq kpF9 σ' s15 → cT s15 g' N' (new ++ []) := fun s15 q15 => hcT.cq q15 (by decide)
  have nfl : ∀ o : Int, (2 ≤ o ∧ o < 242) ∨ 251 ≤ o → ¬ (0, o) ∈ kpF9 ∧ ¬ (1, o) ∈ kpF9 := fun o ho => by
    refine ⟨fun w => ?_, fun w => ?_⟩
    · have : ∀ p, p ∈ kpF9 → 2 ≤ p.1 ∨ (242 ≤ p.2 ∧ p.2 < 251) := by decide
      have := this _ w
      dsimp only at this
      omega
    · have : ∀ p, p ∈ kpF9 → 2 ≤ p.1 ∨ (242 ≤ p.2 ∧ p.2 < 251) := by decide
      have := this _ w
      dsimp only at this
      omega
  -- the tree stands: the rest
  have fin : ∀ s15, cq kpF9 σ' s15 → (∀ i : Int, 0 ≤ i → i < 9 → ra s15 12011 0 i = ra σ' 7002 0 i) → rs s15 7004 0 = rs σ1 7004 0 → rs s15 7005 0 = rs σ1 7005 0 → rs s15 1 242 = rs σ1 1 242 → (∀ i, ra s15 0 242 i = ra σ1 0 242 i) → cTr s15 (askT P M r) → (askT P M r = [] ∨ trK (askT P M r)) → (endE (askW P M r) = 0 → trK (askT P M r)) → J n c_Top_keepAsking none 46 [some (jo 12 0)] [] s15 (qV Q) := by
    intro s15 q15 a15 u4 u5 u1 u0 hTr hW hW0
    have Z15 : cZ s15 P.1 (sM (askW P M r).1) := hZ.tw q15 (cT46 s15 q15) (by decide) nfl
    have C15 := Z15.2.1
    have l15 := cln_at Z15.1 12011 0 9 (by decide)
    have hW200 : (askT P M r).length ≤ 200 := by
      rcases hW with w | w
      · rw [w]; decide
      · exact w.2.1
    refine wp_Top_keepAsking_46 ⟨by omega, by omega, by rw [cC_at C15 12014 0 1 (by decide)]; omega, ?_⟩
    rw [cC_at C15 12014 0 1 (by decide), cC_at C15 3000 1 2 (by decide), l15, hTr.1]
    refine ⟨by omega, by omega, fun s5 e5 => ?_⟩
    have f5 : sq [(12011, 0)] s15 s5 := by rw [e5]; exact (sq.rf _ s15).pwa 12011 0 _ _ (by decide)
    have r5 : ∀ i, ra s5 12011 0 i = if i = 5 then (((askT P M r).length : Nat) : Int) else ra s15 12011 0 i := fun i => by
      rw [e5]
      unfold wa
      rw [raf_wA, if_pos ⟨rfl, rfl⟩]
      rfl
    clear e5
    have C5 : cC s5 := C15.fq (sq_r1 f5) (by decide)
    have Tr5 : cTr s5 (askT P M r) := ⟨by rw [f5.nrs 6000 2 (by decide)]; exact hTr.1, treeW_cong (f5.nraf 6001 2 (by decide)) (f5.nraf 3001 1 (by decide)) (f5.nrs 3002 1 (by decide)) hTr.2.1, by
      unfold fok
      rw [f5.nrs 6000 2 (by decide), f5.nrl 6001 2, f5.nrs 3002 1 (by decide), f5.nrl 3001 1]
      exact hTr.2.2⟩
    rw [f5.nrl 12011 0, l15, cC_at C5 12014 0 1 (by decide)]
    refine ⟨by omega, by omega, by omega, c_deepest (by omega) C5 Tr5 hW ?_⟩
    rw [f5.nrl 12011 0, l15]
    refine ⟨by omega, fun s12 e12 => ?_⟩
    have f12 : sq [(12011, 0)] s5 s12 := by rw [e12]; exact (sq.rf _ s5).pwa 12011 0 _ _ (by decide)
    have r12 : ∀ i, ra s12 12011 0 i = if i = 6 then mxZ (dpW (askT P M r)) (askT P M r).length else ra s5 12011 0 i := fun i => by
      rw [e12]
      unfold wa
      rw [raf_wA, if_pos ⟨rfl, rfl⟩]
      rfl
    clear e12
    have C12 : cC s12 := C5.fq (sq_r1 f12) (by decide)
    have Tr12 : cTr s12 (askT P M r) := ⟨by rw [f12.nrs 6000 2 (by decide)]; exact Tr5.1, treeW_cong (f12.nraf 6001 2 (by decide)) (f12.nraf 3001 1 (by decide)) (f12.nrs 3002 1 (by decide)) Tr5.2.1, by
      unfold fok
      rw [f12.nrs 6000 2 (by decide), f12.nrl 6001 2, f12.nrs 3002 1 (by decide), f12.nrl 3001 1]
      exact Tr5.2.2⟩
    rw [f12.nrl 12011 0, f5.nrl 12011 0, l15, cC_at C12 12014 0 1 (by decide)]
    refine ⟨by omega, by omega, c_unlike (by omega) C12 Tr12 hW ?_⟩
    rw [f12.nrl 12011 0, f5.nrl 12011 0, l15]
    refine ⟨by omega, fun s18 e18 => ?_⟩
    have f18 : sq [(12011, 0)] s12 s18 := by rw [e18]; exact (sq.rf _ s12).pwa 12011 0 _ _ (by decide)
    have r18 : ∀ i, ra s18 12011 0 i = if i = 8 then tbn 32 (orZ (gvW (askT P M r)) (askT P M r).length) else ra s12 12011 0 i := fun i => by
      rw [e18]
      unfold wa
      rw [raf_wA, if_pos ⟨rfl, rfl⟩]
      rfl
    clear e18
    have f1518 : sq [(12011, 0)] s15 s18 := (f5.tr f12).tr f18
    have C18 : cC s18 := C15.fq (sq_r1 f1518) (by decide)
    rw [cC_at C18 12007 0 0 (by decide)]
    refine ⟨by omega, fun s21 e21 => ?_⟩
    have f21 : sq [(12016, 0)] s18 s21 := by rw [e21]; exact (sq.rf _ s18).pws 12016 0 _ (by decide)
    have r21 : rs s21 12016 0 = rs s18 7004 0 := by rw [e21, rs_ws, if_pos ⟨rfl, rfl⟩]
    clear e21
    have C21 : cC s21 := C18.fq (sq_r1 f21) (by decide)
    rw [cC_at C21 12007 0 0 (by decide)]
    refine ⟨by omega, fun s23 e23 => ?_⟩
    have f23 : sq [(12017, 0)] s21 s23 := by rw [e23]; exact (sq.rf _ s21).pws 12017 0 _ (by decide)
    have r23 : rs s23 12017 0 = rs s21 7005 0 := by rw [e23, rs_ws, if_pos ⟨rfl, rfl⟩]
    clear e23
    have C23 : cC s23 := C21.fq (sq_r1 f23) (by decide)
    have l246 := C23.2.1 (246, 100) (by decide)
    have l242 := C23.2.1 (242, 100) (by decide)
    dsimp only at l246 l242
    rw [cC_at C23 12007 0 0 (by decide), cC_at C23 12013 0 246 (by decide), cC_at C23 7003 0 242 (by decide)]
    refine ⟨by omega, by omega, c_take (by omega) (by omega) (by omega) (by omega) (by omega) (by omega) (by omega) (fun s26 f26 v26 a26 => ?_)⟩
    have f1526 : sq [(12011, 0), (12016, 0), (12017, 0), (0, 246), (1, 246)] s15 s26 := (((f1518.mo (by decide)).tr (f21.mo (by decide))).tr (f23.mo (by decide))).tr (f26.mo (by decide))
    have f1523 : sq [(12011, 0), (12016, 0), (12017, 0)] s15 s23 := ((f1518.mo (by decide)).tr (f21.mo (by decide))).tr (f23.mo (by decide))
    have q26 : cq kpF9 σ' s26 := q15.tr ((show cq [(12011, 0), (12016, 0), (12017, 0), (0, 246), (1, 246)] s15 s26 from f1526.cq (by decide)).mo (by decide))
    have Z26 : cZ s26 P.1 (sM (askW P M r).1) := hZ.tw q26 (cT46 s26 q26) (by decide) nfl
    refine hq s26 q26 Z26 (fun i hi => ?_) ⟨by rw [f1526.nrs 6000 2 (by decide)]; exact hTr.1, treeW_cong (f1526.nraf 6001 2 (by decide)) (f1526.nraf 3001 1 (by decide)) (f1526.nrs 3002 1 (by decide)) hTr.2.1, ?_⟩ hW hW0 (fun h2 => ?_)
    · rw [f26.nra 12011 0 _ (by decide), f23.nra 12011 0 _ (by decide), f21.nra 12011 0 _ (by decide), r18, r12, r5, a15 _ (by omega) (by omega), r72]
      unfold upI tlW
      have hi' : i = 0 ∨ i = 1 ∨ i = 2 ∨ i = 3 ∨ i = 4 ∨ i = 5 ∨ i = 6 ∨ i = 7 ∨ i = 8 := by omega
      rcases hi' with w | w | w | w | w | w | w | w | w <;> subst w
      · rfl
      · exact y1
      · exact y2
      · exact y3
      · exact y4
      · rfl
      · rfl
      · exact y5
      · rfl
    · unfold fok
      rw [f1526.nrs 6000 2 (by decide), f1526.nrl 6001 2, f1526.nrs 3002 1 (by decide), f1526.nrl 3001 1]
      exact hTr.2.2
    · obtain ⟨w1, w2, w3⟩ := p8 h2
      have hlc : (askW P M r).2.2.2.2.2.length ≤ 100 := by
        have h1 := w3.2.2.1
        have h4 := p2.2.1.2.1 (242, 100) (by decide)
        dsimp only at h4
        omega
      have v242 : rs s23 1 242 = (((askW P M r).2.2.2.2.2.length : Nat) : Int) := by rw [f1523.nrs 1 242 (by decide), u1]; exact w3.2.1
      refine ⟨?_, ?_, by omega, ?_, ?_, fun j hj => ?_⟩
      · rw [f26.nrs 12016 0 (by decide), f23.nrs 12016 0 (by decide), r21, f1518.nrs 7004 0 (by decide), u4]; exact w1
      · rw [f26.nrs 12017 0 (by decide), r23, f21.nrs 7005 0 (by decide), f1518.nrs 7005 0 (by decide), u5]; exact w2
      · rw [v26]; exact v242
      · rw [f26.nrl 0 246, l246]; omega
      · rw [a26 ((j : Nat) : Int) (by omega) (by rw [v242]; omega) (by omega) (by omega), f1523.nra 0 242 _ (by decide), u0]
        exact w3.2.2.2 j hj
  have l10 : rl s10 12011 0 = 9 := by rw [f010.nrl 12011 0]; exact l11
  rw [l10, b10]
  refine ⟨by omega, by omega, ?_⟩
  have k4 : rs s10 7004 0 = rs σ1 7004 0 := by rw [f010.nrs 7004 0 (by decide), f72.nrs 7004 0 (by decide)]
  have k5 : rs s10 7005 0 = rs σ1 7005 0 := by rw [f010.nrs 7005 0 (by decide), f72.nrs 7005 0 (by decide)]
  have k1 : rs s10 1 242 = rs σ1 1 242 := by rw [f010.nrs 1 242 (by decide), f72.nrs 1 242 (by decide)]
  have k0 : ∀ i, ra s10 0 242 i = ra σ1 0 242 i := fun i => by rw [f010.nra 0 242 i (by decide), f72.nra 0 242 i (by decide)]
  by_cases q0 : endE (askW P M r) = 0
  · rw [if_neg (fun w => w q0), cC_at C10 12007 0 0 (by decide), cC_at C10 12014 0 1 (by decide)]
    obtain ⟨q1, t, ht⟩ := endE_0.mp q0
    obtain ⟨u1, u2, u3, u4, u5, u6, u7, u8⟩ := t4 t ht
    subst u1
    subst u2
    rw [ha60] at u5 u6
    have hIr := ask_I hT 21 [] (s00 r M) (x00 r) o2 ⟨[], o1⟩ o4 o5 t ht
    obtain ⟨-, -, v1, v2⟩ := hIr
    have hmem : memR s10 (sM (askW P M r).1) := hZ.2.2.2.1.fq (sq_r1 f010) (by decide) (fun o _ => ⟨by simp, by simp⟩)
    have ht200 : t.length ≤ 200 := by
      obtain ⟨c0, c1, -⟩ := p2.2.2.2.2.2.2.2.1
      omega
    obtain ⟨c0, c1, c2, c3⟩ := p2.2.2.2.2.2.2.2.1
    have hrp : rs s10 6000 1 = 0 + ((t.length : Nat) : Int) := by rw [f010.nrs 6000 1 (by decide), e60]; exact u6
    have hzR : zok (hG (askW P M r).1) (hN (askW P M r).1) := (hres.2.2.2 t ht).1
    have hle : memL (sM (askW P M r).1) (sM (askW P M r).1).length ≤ 200 * ((sM (askW P M r).1).length : Nat) := memL_le (fun j hj => (hmem.2.2.1 j hj).2.2.2.2.2.2.2.2.1) _ (Nat.le_refl _)
    have hWt : trK (askT P M r) := askT_trK hT hM hmem q1 ht u7 v1 (hl t ht).2
    have eW := askT_yes q1 ht
    refine ⟨by omega, c_plant (f := rowE (hG (askW P M r).1) (hN (askW P M r).1) (hE (askW P M r).1)) (M := sM (askW P M r).1) (nb := 2) (by omega) (Or.inr ⟨rfl, rfl⟩) C10 (cT46 s10 K10) u3.2.1 (memQ_of hmem) fk10 (planS_cong (fun i _ _ => by rw [f010.nra 6001 1 i (by decide), e61]) u5) u7 (Int.le_refl _) hrp (by rw [hrp]; omega) (by rw [f010.nrs 6000 1 (by decide), f010.nrl 6001 1, e60, e6l]; exact c2) (by rw [f010.nrl 6001 1, e6l]; exact c3) (fun m hm => ⟨u8 m hm, v1 m hm⟩) (fun z hz => ?_) (by rw [v60]; have := (hl t ht).2; omega) (by have h6 := hmem.2.2.2.2.2.1; have h40 := hmem.2.1; omega) (fun s15 g15 w15 => ?_)⟩
    · obtain ⟨-, d2, d3, -⟩ := v2 z hz
      exact ⟨d2, d3, rowE_eq hzR u3 d2 d3⟩
    · rw [v60, ← eW] at w15
      have e15 := g15.1
      have q15 : cq kpF9 σ' s15 := K10.tr (e15.mo (by decide))
      have ew : (expT (sM (askW P M r).1) t).length = (askT P M r).length := by rw [eW, expT_kpt]
      refine fin s15 q15 (fun i i0 i1 => by rw [e15.nraf 12011 0 (by decide) (by decide)]; exact a10 i i0 i1) (by rw [e15.nrs 7004 0 (by decide) (by decide)]; exact k4) (by rw [e15.nrs 7005 0 (by decide) (by decide)]; exact k5) (by rw [e15.nrs 1 242 (by decide) (by decide)]; exact k1) (fun i => by rw [e15.nraf 0 242 (by decide) (by decide)]; exact k0 i) ⟨by rw [g15.2.1, v60, ew]; omega, w15, g15.2.2.1⟩ (Or.inr hWt) (fun _ => hWt)
  · rw [if_pos q0]
    have hW0 : askT P M r = [] := askT_no (by
      by_cases q : (askW P M r).2.1 = 0
      · refine Or.inr ?_
        cases h : (askW P M r).2.2.1 with
        | none => rfl
        | some t => exact absurd (endE_0.mpr ⟨q, t, h⟩) q0
      · exact Or.inl q)
    refine fin s10 K10 a10 k4 k5 k1 k0 ⟨by rw [hW0, v60]; rfl, by rw [hW0]; trivial, fk10⟩ (Or.inl hW0) (fun w => absurd w q0)
end ZKe
