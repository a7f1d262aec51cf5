/-! A goal is remembered: the class. -/
def rmF (F : Nat) (x : Int) : Prop := mnF F x ∨ (F, x) ∈ pgF true 0 0
section ZMb
variable {n : Nat} {σ σ1 σ2 : jS} {M : zM} {r : List Int} {P : zP} {s : zS} {path : List (Int × Int)} {g : zH} {N : Int} {β : List (Int × Int)} {x : Int} {T : zT} {Fp Fq : Nat → Int → Prop} {sc : Int}
theorem gq.nrs (e : gq Fp σ σ1) (F : Nat) (o : Int) (hF : F < 900000) (hx : ¬ Fp F o) : rs σ1 F o = rs σ F o := (e F o hF hx).1
theorem gq.nraf (e : gq Fp σ σ1) (F : Nat) (o : Int) (hF : F < 900000) (hx : ¬ Fp F o) : ra σ1 F o = ra σ F o := funext (e F o hF hx).2.1
theorem gq.nrl (e : gq Fp σ σ1) (F : Nat) (o : Int) (hF : F < 900000) (hx : ¬ Fp F o) : rl σ1 F o = rl σ F o := (e F o hF hx).2.2
theorem gq.tr (e : gq Fp σ σ1) (e' : gq Fp σ1 σ2) : gq Fp σ σ2 := fun F o hF hx => ⟨(e' F o hF hx).1.trans (e F o hF hx).1, fun i => ((e' F o hF hx).2.1 i).trans ((e F o hF hx).2.1 i), (e' F o hF hx).2.2.trans (e F o hF hx).2.2⟩
theorem gq.mo (e : gq Fp σ σ1) (h : ∀ F o, Fp F o → Fq F o) : gq Fq σ σ1 := fun F o hF hx => e F o hF (fun w => hx (h F o w))
theorem cq.gq {l : List (Nat × Int)} (e : cq l σ σ1) (h : ∀ p, p ∈ l → Fp p.1 p.2) : gq Fp σ σ1 := fun F o hF hx => e.1 F o hF (fun w => hx (h _ w))
theorem cln.aq (h : cln σ) (e : aq σ σ1) : cln σ1 := fun p hp => by
  have h1 := List.all_eq_true.mp clT_ok p hp
  have h2 : ∀ p, p ∈ clT → ¬ (p.1.1, p.1.2) ∈ lenT ∧ ¬ p.1.1 = 0 := by decide
  rw [e.2.2.2.2.2 _ _ (of_decide_eq_true h1) (h2 p hp).1 (fun w => absurd w (h2 p hp).2)]
  exact h p hp
theorem cC.gq (h : cC σ) (e : aq σ σ1) (e' : gq Fp σ σ1) (hl : ∀ p, p ∈ ccT → ¬ Fp p.1.1 p.1.2) : cC σ1 := by
  obtain ⟨h1, h2, h3⟩ := h
  have k0 : ∀ o, o < 251 → rl σ1 0 o = rl σ 0 o := fun o ho => e.2.2.2.2.2 0 o (by decide) (fun w => by
    have : ∀ p, p ∈ lenT → ¬ p.1 = 0 := by decide
    exact this _ w rfl) (fun _ => ho)
  refine ⟨fun p hp => ?_, fun p hp => ?_, fun j j0 j1 => ?_⟩
  · have w2 : ∀ p, p ∈ ccT → p.1.1 < 900000 := by decide
    rw [e'.nrs _ _ (w2 p hp) (hl p hp)]
    exact h1 p hp
  · have w2 : ∀ p, p ∈ clfT → p.1 < 251 := by decide
    rw [k0 _ (w2 p hp)]; exact h2 p hp
  · rw [k0 _ (by omega)]; exact h3 j j0 j1
theorem cTx.gq (h : cTx σ T) (e : gq Fp σ σ1) (hl : ∀ p, p ∈ cTxF → ¬ Fp p.1 p.2) (hf : ∀ o, 2 ≤ o → o < 242 → ¬ Fp 0 o ∧ ¬ Fp 1 o) : cTx σ1 T := by
  obtain ⟨h1, tx, h2, h3, h4, h5, h6, h7, h8, h9⟩ := h
  have hm2 : ∀ F, (F, 0) ∈ cTxF → (F, 1) ∈ cTxF → ¬ Fp F tx := fun F m1 m2 => by
    rcases h2 with w | w
    · rw [w]; exact hl _ m1
    · rw [w]; exact hl _ m2
  have hfl : ∀ o r, 2 ≤ o → o < 242 → fT σ o r → fT σ1 o r := fun o r o0 o1 hh => by
    obtain ⟨c1, c2⟩ := hf o o0 o1
    unfold fT
    rw [e.nrs 1 o (by decide) c2, e.nrl 0 o (by decide) c1, e.nraf 0 o (by decide) c1]
    exact hh
  refine ⟨h1, tx, h2, ?_⟩
  rw [e.nrs 7019 0 (by decide) (hl (7019, 0) (by decide)), e.nrs 12005 0 (by decide) (hl (12005, 0) (by decide)), e.nrs 10000 tx (by decide) (hm2 _ (by decide) (by decide)), e.nrs 10001 tx (by decide) (hm2 _ (by decide) (by decide)), e.nraf 10008 tx (by decide) (hm2 _ (by decide) (by decide)), e.nraf 10002 tx (by decide) (hm2 _ (by decide) (by decide)), e.nraf 10003 tx (by decide) (hm2 _ (by decide) (by decide)), e.nraf 10004 tx (by decide) (hm2 _ (by decide) (by decide)), e.nraf 10005 tx (by decide) (hm2 _ (by decide) (by decide)), e.nraf 10006 tx (by decide) (hm2 _ (by decide) (by decide)), e.nraf 10009 tx (by decide) (hm2 _ (by decide) (by decide))]
  refine ⟨h3, h4, h5, h6, h7, h8, fun k k0 k1 => ?_⟩
  obtain ⟨c1, c2, c3, c4⟩ := h9 k k0 k1
  have hG := h1.2.2.2.1
  have hN := (h1.2.2.2.2.2 k k0 k1).2.2.2.1
  exact ⟨c1, c2, fun i hi => hfl _ _ (by omega) (by rcases h2 with w | w <;> omega) (c3 i hi), c4⟩
theorem cT.gq (h : cT σ g N β) (ha : aq σ σ1) (e : gq Fp σ σ1) (hl : ∀ p, p ∈ ((9004, 0) :: cTf : List (Nat × Int)) → ¬ Fp p.1 p.2) : cT σ1 g N β := by
  obtain ⟨⟨h1, h2, h3, h4, h5, h6, h7, h8, h9, h10, h11, h12, h13, h14⟩, h15⟩ := h
  unfold cT cT0 mk0
  rw [e.nraf 9003 0 (by decide) (hl (9003, 0) (by decide)), e.nraf 9004 0 (by decide) (hl (9004, 0) (by decide)), e.nraf 9005 0 (by decide) (hl (9005, 0) (by decide)), e.nraf 9006 0 (by decide) (hl (9006, 0) (by decide)), e.nrs 9000 0 (by decide) (hl (9000, 0) (by decide)), e.nrs 9001 0 (by decide) (hl (9001, 0) (by decide)), e.nrl 9003 0 (by decide) (hl (9003, 0) (by decide)), e.nrl 9004 0 (by decide) (hl (9004, 0) (by decide)), e.nrl 9005 0 (by decide) (hl (9005, 0) (by decide)), e.nrl 9006 0 (by decide) (hl (9006, 0) (by decide))]
  exact ⟨⟨h1.aq ha, h2, h3, h4, h5, h6, h7, h8, h9, h10, h11, h12, h13, h14⟩, h15⟩
/-- all but what was remembered, under what remembering changes -/
theorem cB.rm {M' : zM} (h : cB σ P s path) (ha : aq σ σ1) (e : gq rmF σ σ1) (hm : memR σ1 M') : cB σ1 P (s.1, M', s.2.2) path := by
  obtain ⟨h1, h2, h3, h4, h5, h6, h7, h8, h9, h10⟩ := h
  have q : ∀ p, p ∈ ([(7015, 0), (7016, 0), (7014, 0), (7018, 0), (7002, 0), (7010, 0), (7011, 0), (6000, 1), (6001, 1), (9002, 0), (9007, 0)] : List (Nat × Int)) → ¬ rmF p.1 p.2 := by unfold rmF mnF pgF; decide
  refine ⟨h1.aq ha, h2.gq ha e (by unfold rmF mnF pgF; decide), h3.gq e (by unfold rmF mnF pgF; decide) (fun o o0 o1 => ?_), ?_, ?_, ?_, hm, ?_, ?_, ha.2.2.2.2.1 h10⟩
  · unfold rmF mnF pgF
    simp
    omega
  · rw [e.nrs 7015 0 (by decide) (q (7015, 0) (by decide)), e.nrs 7016 0 (by decide) (q (7016, 0) (by decide)), e.nrs 7014 0 (by decide) (q (7014, 0) (by decide)), e.nrs 7018 0 (by decide) (q (7018, 0) (by decide))]
    exact h4
  · unfold tly
    rw [e.nraf 7002 0 (by decide) (q (7002, 0) (by decide))]
    exact h5
  · rw [e.nraf 7010 0 (by decide) (q (7010, 0) (by decide)), e.nraf 7011 0 (by decide) (q (7011, 0) (by decide))]
    exact h6
  · rw [e.nrs 6000 1 (by decide) (q (6000, 1) (by decide)), e.nrl 6001 1 (by decide) (q (6001, 1) (by decide))]
    exact h8
  · rw [e.nrs 9002 0 (by decide) (q (9002, 0) (by decide)), e.nrl 9007 0 (by decide) (q (9007, 0) (by decide))]
    exact h9
theorem memN.q {k : Int} (h : memN σ M sc r k) : memQ σ M := by
  obtain ⟨h1, h2, h3, h4, h5, h6, h7, h8, h9⟩ := h
  refine ⟨by omega, by omega, fun j hj => ?_, by omega, h8⟩
  obtain ⟨d1, d2, d3, d4, d5, d6, d7, d8, d9, d10, d11⟩ := h3 j hj
  exact ⟨d2, d3, d9, d10, d11⟩
/-- the tree has been planted -/
theorem memN.fin {Tr1 : List zN} (h : memN σ M sc r (Tr1.length : Nat)) (e : fgr true 0 0 (Tr1.length : Nat) σ σ1) (w : treeW σ1 0 0 (memL M M.length) 0 [(-1, -1)] Tr1) (hw : memO Tr1) (hT : Tr1.length ≤ 200) (hr : r.length ≤ 100) (hr2 : ∀ t, t ∈ r → t < 104) : memR σ1 (M ++ [(sc, r, Tr1)]) := by
  obtain ⟨h1, h2, h3, ⟨n1, n2, n3, n4, n5, n6⟩, h5, h6, h7, h8, h9⟩ := h
  obtain ⟨a1, a2, a3, a4, a5, a6⟩ := e
  have hl : (M ++ [(sc, r, Tr1)]).length = M.length + 1 := by rw [List.length_append, List.length_singleton]
  have e0 : ∀ o : Int, 251 ≤ o → rs σ1 1 o = rs σ 1 o ∧ ra σ1 0 o = ra σ 0 o ∧ rl σ1 0 o = rl σ 0 o := fun o ho => by
    have m0 : (pgF true 0 0).contains (0, o) = false := by simp [pgF]; omega
    have m1 : (pgF true 0 0).contains (1, o) = false := by simp [pgF]; omega
    exact ⟨a1.nrs 1 o (by decide) m1, a1.nraf 0 o (by decide) m0, a1.nrl 0 o (by decide) m0⟩
  have fTs : ∀ (o : Int) (r : List Int), 251 ≤ o → fT σ o r → fT σ1 o r := fun o r ho hh => by
    obtain ⟨c1, c2, c3⟩ := e0 o ho
    unfold fT
    rw [c1, c2, c3]
    exact hh
  have k50 : rs σ1 5000 0 = rs σ 5000 0 := a1.nrs 5000 0 (by decide) (by decide)
  have k51 : ra σ1 5001 0 = ra σ 5001 0 := a1.nraf 5001 0 (by decide) (by decide)
  have k52 : ra σ1 5002 0 = ra σ 5002 0 := a1.nraf 5002 0 (by decide) (by decide)
  have k54 : ra σ1 5004 0 = ra σ 5004 0 := a1.nraf 5004 0 (by decide) (by decide)
  have k55 : ra σ1 5005 0 = ra σ 5005 0 := a1.nraf 5005 0 (by decide) (by decide)
  have k20 : ra σ1 2000 0 = ra σ 2000 0 := a1.nraf 2000 0 (by decide) (by decide)
  have kk : rk σ1 0 = rk σ 0 := a1.2.1 0
  have mL : ∀ j, j ≤ M.length → memL (M ++ [(sc, r, Tr1)]) j = memL M j := fun j hj => by
    unfold memL
    rw [List.take_append_of_le_length hj]
  unfold memR
  rw [k50, k51, k52, k54, k55, kk]
  refine ⟨by rw [h1, hl]; omega, by omega, fun j hj => ?_, h5, fun j j0 j1 p0 => ?_, ?_, a3.2.1, a3.2.2.1, a3.2.2.2.1, a3.2.2.2.2.1, a3.2.2.2.2.2.1, a3.2.2.2.2.2.2, rkK_cg h9 kk k55 k20 (fun o ho => (e0 o ho).2.2)⟩
  · by_cases q : j < M.length
    · obtain ⟨d1, d2, d3, d4, d5, d6, d7, d8, d9, d10, d11⟩ := h3 j q
      rw [List.getElem_append_left q, mL j (by omega)]
      refine ⟨d1, d2, d3, d4, d5, fTs _ _ d4 d6, d7, d8, d9, treeW_up a6 a5 (fun i i0 i1 => a4 i ?_ ?_) d10, d11⟩
      · have := memL_0 (M := M) j
        omega
      · have := memL_at q
        omega
    · have ej : j = M.length := by omega
      subst ej
      have eg : (M ++ [(sc, r, Tr1)])[M.length]'hj = (sc, r, Tr1) := by
        rw [List.getElem_append_right (Nat.le_refl _)]
        simp
      rw [eg, mL M.length (Nat.le_refl _)]
      exact ⟨n1, n2, n3, n4, n5, fTs _ _ n4 n6, hr, hr2, hT, w, hw⟩
  · obtain ⟨d1, d2, d3⟩ := h6 j j0 j1 p0
    exact ⟨d1, d2, by rw [(e0 _ d1).2.2]; exact d3⟩
  · rw [hl, memL_s (M := M ++ [(sc, r, Tr1)]) (by omega), mL M.length (Nat.le_refl _), a2, h7]
    have eg : (M ++ [(sc, r, Tr1)])[M.length]'(by omega) = (sc, r, Tr1) := by
      rw [List.getElem_append_right (Nat.le_refl _)]
      simp
    rw [eg]
theorem memL_le (h : ∀ j, (q : j < M.length) → (M[j]).2.2.length ≤ 200) : ∀ j, j ≤ M.length → memL M j ≤ 200 * (j : Nat) := by
  intro j
  induction j with
  | zero => intro _; unfold memL; simp
  | succ j ih =>
    intro hj
    have h1 := ih (by omega)
    have h2 := h j (by omega)
    rw [memL_s (by omega)]
    omega
theorem c_remember {Q : jS → Prop} {me v a0 b0 : Int} {Tr1 : List zN} (hn : 7 ≤ n) (hB : cB σ P s path) (hT : cT σ g N β) (ha : acy g N β) (x0 : 0 ≤ x) (x1 : x < N) (hrow : cno [] (ex g N β x) = r) (hrl : r.length ≤ 100) (hr2 : ∀ t, t ∈ r → t < 104) (h40 : (sM s).length < 40) (hno : fndM (sM s) P.2.2.2.1 r = none) (hv : v = (Tr1.length : Nat)) (hTl : Tr1.length ≤ 200) (hw : memO Tr1)
    (hpl : Tr1 = [] ∨ ∃ (t : List zI) (f : Int → List Int), Tr1 = expT (sM s) (t.map (kpt f)) ∧ planS σ me [(a0, b0)] t ∧ rdA (t.map arI) 1 = some [] ∧ 0 ≤ me ∧ rs σ 6000 1 = me + (t.length : Nat) ∧ rs σ 6000 1 ≤ 200 ∧ (∀ m : Nat, .inr m ∈ t → m < (sM s).length ∧ ¬ memT (sM s) m = []) ∧ (∀ z : zN, .inl z ∈ t → 0 ≤ z.2.2.2.2.2.2.1 ∧ z.2.2.2.2.2.2.1 < N ∧ f z.2.2.2.2.2.2.1 = cno [] (ex g N β z.2.2.2.2.2.2.1)))
    (hq : ∀ σ', aq σ σ' → gq rmF σ σ' → cB σ' P (s.1, sM s ++ [(P.2.2.2.1, r, Tr1)], s.2.2) path → Q σ') : TrV n i_Search_remember [jo 7 0, ji x, ji me, ji v] σ Q := by
  have hC := hB.2.1
  have t70 := cC_at hC 7000 0 0 (by decide)
  have t78 := cC_at hC 7008 0 243 (by decide)
  have g243 : rl σ 0 243 = 100 := hC.2.1 (243, 100) (by decide)
  have len1 := cno_len (ex g N β x) []
  refine wp_Search_remember ⟨by omega, by omega, by omega, ?_⟩
  rw [t70, t78]
  refine c_flatten (by omega) hT ha (by omega) g243 x0 x1 (fun σ1 f1 r1 => ?_)
  have q1 : cq (fF 243) σ σ1 := f1.cq (by decide)
  have aq1 : aq σ σ1 := q1.aq (fun p hp => by
    simp [fF] at hp
    unfold askFp
    rcases hp with w | w | w | w | w | w <;> rw [w] <;> simp)
  have gq1 : gq rmF σ σ1 := q1.gq (fun p hp => by
    refine Or.inr ?_
    have : ∀ p, p ∈ fF 243 → p ∈ pgF true 0 0 := by decide
    exact this p hp)
  have B1 : cB σ1 P s path := cB_cq2 hB q1 (by decide) (by decide) (by decide) (nofl3 (by decide))
  have C1 := B1.2.1
  have hr1 : fT σ1 243 r := by
    rw [← hrow]
    rw [← hrow, len1] at hrl
    exact r1.fT hrl (by omega) (by rw [f1.nrl]; exact g243)
  rw [cC_at C1 7001 0 0 (by decide), cC_at C1 7008 0 243 (by decide), B1.2.2.2.1.2.2.1]
  refine ⟨by omega, c_takes (by omega) B1.1 B1.2.2.2.2.2.2.1 hr1 hrl hr2 (fun _ _ => ?_) (fun w => absurd ⟨h40, hno⟩ w)⟩
  rw [if_pos (by decide), cC_at C1 7001 0 0 (by decide), cC_at C1 7008 0 243 (by decide), B1.2.2.2.1.2.2.1]
  refine ⟨by omega, c_madd (by omega) B1.1 C1 B1.2.2.2.2.2.2.1 h40 hr1 hrl (fun σ2 aq2 gq2 N2 => ?_)⟩
  have gq02 : gq rmF σ σ2 := gq1.tr (gq2.mo (fun F o w => Or.inl w))
  have aq02 : aq σ σ2 := aq1.tr aq2
  have C2 : cC σ2 := hC.gq aq02 gq02 (by unfold rmF mnF pgF; decide)
  rw [cC_at C2 7001 0 0 (by decide), cC_at C2 5003 0 0 (by decide)]
  by_cases q : Tr1 = []
  · rw [if_pos (by rw [hv, q]; decide)]
    refine hq σ2 aq02 gq02 (hB.rm aq02 gq02 ?_)
    rw [hv] at N2
    refine N2.fin (σ1 := σ2) ?_ ?_ hw hTl hrl hr2
    · rw [q]
      exact fgr.rf N2.2.2.2.2.2.2.2.1
    · rw [q]; trivial
  · obtain ⟨t, f, p1, p2, p3, p4, p5, p6, p7, p8⟩ := hpl.resolve_left q
    have hpos : 0 < Tr1.length := by
      cases Tr1 with
      | nil => exact absurd rfl q
      | cons z l => rw [List.length_cons]; omega
    rw [if_neg (by omega)]
    have e60 : rs σ2 6000 1 = rs σ 6000 1 := gq02.nrs 6000 1 (by decide) (by unfold rmF mnF pgF; decide)
    have e61 : ra σ2 6001 1 = ra σ 6001 1 := gq02.nraf 6001 1 (by decide) (by unfold rmF mnF pgF; decide)
    have e62 : rl σ2 6001 1 = rl σ 6001 1 := gq02.nrl 6001 1 (by decide) (by unfold rmF mnF pgF; decide)
    obtain ⟨u0, u1, u2, u3⟩ := hB.2.2.2.2.2.2.2.1
    have hlen : (expT (sM s) t).length = Tr1.length := by rw [p1, expT_kpt]
    have hle : memL (sM s) (sM s).length ≤ 200 * ((sM s).length : Nat) := memL_le (fun j hj => (N2.2.2.1 j hj).2.2.2.2.2.2.2.2.1) _ (Nat.le_refl _)
    have h60 : rs σ2 6000 0 = memL (sM s) (sM s).length := N2.2.2.2.2.2.2.1
    refine ⟨by omega, c_plant (f := f) (M := sM s) (nb := 0) (by omega) (Or.inl ⟨rfl, rfl⟩) C2 (hT.gq aq02 gq02 (by unfold rmF mnF pgF; decide)) ha N2.q N2.2.2.2.2.2.2.2.1 (planS_cong (fun i _ _ => by rw [e61]) p2) p3 p4 (by rw [e60]; exact p5) (by rw [e60]; exact p6) (by rw [e60, e62]; exact u2) (by rw [e62]; exact u3) p7 p8 (by rw [hlen]; omega) (by omega) (fun σ3 g3 w3 => ?_)⟩
    rw [hlen] at g3
    have gq23 : gq rmF σ2 σ3 := g3.1.gq (fun p hp => Or.inr hp)
    have aq23 : aq σ2 σ3 := g3.1.aq (fun p hp => by
      simp [pgF] at hp
      unfold askFp
      rcases hp with w | w | w | w | w | w | w | w | w | w | w <;> rw [w] <;> simp)
    refine hq σ3 (aq02.tr aq23) (gq02.tr gq23) (hB.rm (aq02.tr aq23) (gq02.tr gq23) ?_)
    rw [hv] at N2
    rw [← p1, h60] at w3
    exact N2.fin g3 w3 hw hTl hrl hr2
end ZMb
