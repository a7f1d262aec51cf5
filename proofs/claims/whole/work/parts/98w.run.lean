/-! A whole asking: the class. -/
def rFp (F : Nat) (o : Int) : Prop := askFp F o ∨ F = 7014 ∨ F = 7015 ∨ F = 7016 ∨ F = 7018
/-- what a whole asking may change -/
def rq (σ σ' : jS) : Prop := (∀ F o, F < 900000 → ¬ rFp F o → rs σ' F o = rs σ F o ∧ (∀ i, ra σ' F o i = ra σ F o i) ∧ rl σ' F o = rl σ F o) ∧ (∀ c, ¬ c = 0 → rk σ' c = rk σ c) ∧ rk σ 0 ≤ rk σ' 0 ∧
  (rz σ' + 2 * lens σ + 102 * rk σ 0 ≤ rz σ + 2 * lens σ' + 102 * rk σ' 0 ∧ rc σ' + lens σ + 2 * rk σ 0 ≤ rc σ + lens σ' + 2 * rk σ' 0 ∧ lens σ ≤ lens σ') ∧ (jnG σ → jnG σ') ∧ ∀ F o, F < 900000 → ¬ (F, o) ∈ lenT → (F = 0 → o < 251) → rl σ' F o = rl σ F o
/-- how an asking ends -/
def endE (R : zS × zQ) : Int := if R.2.1 = 0 then (match R.2.2.1 with | none => 1 | some _ => 0) else R.2.1
/-- the class between two askings -/
def cZ (σ : jS) (T : zT) (M : zM) : Prop := cln σ ∧ cC σ ∧ cTx σ T ∧ memR σ M ∧ (gr2 (rl σ 9003 0) ∧ rl σ 9004 0 = rl σ 9003 0 ∧ rl σ 9005 0 = 3 * rl σ 9003 0 ∧ gr2 (rl σ 9006 0) ∧ gr2 (rl σ 9007 0) ∧ gr3 (rl σ 6001 1)) ∧ mk0 σ ∧ jnG σ
section ZRn
variable {n : Nat} {σ σ1 σ2 : jS} {P : zP} {M : zM} {r : List Int}
theorem rq.rf (σ : jS) : rq σ σ := ⟨fun _ _ _ _ => ⟨rfl, fun _ => rfl, rfl⟩, fun _ _ => rfl, Int.le_refl _, ⟨Int.le_refl _, Int.le_refl _, Int.le_refl _⟩, fun h => h, fun _ _ _ _ _ => rfl⟩
theorem rq.tr (h : rq σ σ1) (h' : rq σ1 σ2) : rq σ σ2 := by
  obtain ⟨a1, a2, a3, ⟨a4, a5, a6⟩, a7, a8⟩ := h
  obtain ⟨b1, b2, b3, ⟨b4, b5, b6⟩, b7, b8⟩ := h'
  exact ⟨fun F o q q2 => ⟨(b1 F o q q2).1.trans (a1 F o q q2).1, fun i => ((b1 F o q q2).2.1 i).trans ((a1 F o q q2).2.1 i), (b1 F o q q2).2.2.trans (a1 F o q q2).2.2⟩, fun c hc => (b2 c hc).trans (a2 c hc), by omega, ⟨by omega, by omega, by omega⟩, fun q => b7 (a7 q), fun F o q q2 q3 => (b8 F o q q2 q3).trans (a8 F o q q2 q3)⟩
theorem aq.rq (h : aq σ σ1) : rq σ σ1 := ⟨fun F o q q2 => h.1 F o q (fun w => q2 (Or.inl w)), h.2⟩
theorem cq.rq {l : List (Nat × Int)} (h : cq l σ σ1) (hl : ∀ p, p ∈ l → rFp p.1 p.2) : rq σ σ1 := by
  have h1 := h.1
  have h2 : cq l σ σ1 := h
  obtain ⟨-, c2, ⟨c3, c4, c5⟩, c6, c7⟩ := h
  refine ⟨fun F o q q2 => h1 F o q (fun w => q2 (hl _ w)), fun c _ => c2 c, by rw [c2]; exact Int.le_refl _, ⟨?_, ?_, c5⟩, c7, fun F o q q2 _ => c6 F o q q2⟩
  · rw [c2]; omega
  · rw [c2]; omega
theorem cB.z {s : zS} {path : List (Int × Int)} {g : zH} {N : Int} {β : List (Int × Int)} (h : cB σ P s path) (hT : cT σ g N β) : cZ σ P.1 (sM s) := by
  obtain ⟨b1, b2, b3, b4, b5, b6, b7, ⟨-, -, -, b8⟩, ⟨-, -, b9⟩, b10⟩ := h
  obtain ⟨⟨-, -, -, -, -, -, -, ⟨-, t1, t2, t3⟩, t4, -⟩, t5⟩ := hT
  exact ⟨b1, b2, b3, b7, ⟨t1, t2, t3, t4, b9, b8⟩, t5, b10⟩
def bnF : List (Nat × Int) := [(9000, 0), (9001, 0), (9002, 0), (6000, 1), (7002, 0), (7014, 0), (7015, 0), (7016, 0), (7017, 0)]
/-- an asking begins -/
theorem c_begin {Q : jS → Prop} {sc outs shuts : Int} (hn : 2 ≤ n) (hZ : cZ σ P.1 M)
    (hq : ∀ σ', sq bnF σ σ' → (rs σ' 9000 0 = 0 ∧ rs σ' 9001 0 = 0 ∧ rs σ' 9002 0 = 0 ∧ rs σ' 6000 1 = 0 ∧ rs σ' 7014 0 = sc ∧ rs σ' 7015 0 = outs ∧ rs σ' 7016 0 = shuts ∧ rs σ' 7017 0 = 0) → (∀ i, 0 ≤ i → i < 9 → ra σ' 7002 0 i = 0) → Q σ') : TrV n i_Search_begin [jo 7 0, ji sc, ji outs, ji shuts] σ Q := by
  obtain ⟨z1, z2, z3, z4, z5, z6, z7⟩ := hZ
  have l02 := cln_at z1 7002 0 9 (by decide)
  have t70 := cC_at z2 7000 0 0 (by decide)
  have t76 := cC_at z2 7006 0 1 (by decide)
  refine wp_Search_begin ⟨by omega, by omega, by omega, ?_⟩
  rw [t70]
  refine wp_Terms_clear ⟨by omega, fun s2 e2 s3 e3 s4 e4 => ?_⟩
  have f4 : sq [(9000, 0), (9001, 0), (9002, 0)] σ s4 := by rw [e4, e3, e2]; exact (((sq.rf _ σ).pws 9000 0 _ (by decide)).pws 9001 0 _ (by decide)).pws 9002 0 _ (by decide)
  have r40 : rs s4 9000 0 = 0 := by rw [e4, e3, e2]; rfl
  have r41 : rs s4 9001 0 = 0 := by rw [e4, e3]; rfl
  have r42 : rs s4 9002 0 = 0 := by rw [e4]; rfl
  clear e2 e3 e4
  rw [f4.nrs 7006 0 (by decide), t76]
  refine ⟨by omega, fun s7 e7 => ?_⟩
  have f7 : sq [(6000, 1)] s4 s7 := by rw [e7]; exact (sq.rf _ s4).pws 6000 1 _ (by decide)
  have r7 : rs s7 6000 1 = 0 := by rw [e7, rs_ws, if_pos ⟨rfl, rfl⟩]
  clear e7
  rw [f7.nrl 7002 0, f4.nrl 7002 0, l02]
  refine ⟨by omega, c_fill (by decide) (by decide) (by rw [f7.nrl 7002 0, f4.nrl 7002 0, l02]; omega) (fun s9 f9 r9 s11 e11 s12 e12 s13 e13 s14 e14 => ?_)⟩
  rw [f7.nrl 7002 0, f4.nrl 7002 0, l02] at r9
  have f14 : sq [(7014, 0), (7015, 0), (7016, 0), (7017, 0)] s9 s14 := by rw [e14, e13, e12, e11]; exact ((((sq.rf _ s9).pws 7014 0 _ (by decide)).pws 7015 0 _ (by decide)).pws 7016 0 _ (by decide)).pws 7017 0 _ (by decide)
  have a14 : rs s14 7014 0 = sc := by rw [e14, e13, e12, e11]; rfl
  have a15 : rs s14 7015 0 = outs := by rw [e14, e13, e12]; rfl
  have a16 : rs s14 7016 0 = shuts := by rw [e14, e13]; rfl
  have a17 : rs s14 7017 0 = 0 := by rw [e14]; rfl
  clear e11 e12 e13 e14
  refine hq s14 ((((f4.mo (by decide)).tr (f7.mo (by decide))).tr (f9.mo (by decide))).tr (f14.mo (by decide))) ⟨?_, ?_, ?_, ?_, a14, a15, a16, a17⟩ (fun i i0 i1 => ?_)
  · rw [f14.nrs 9000 0 (by decide), f9.nrs 9000 0 (by decide), f7.nrs 9000 0 (by decide)]; exact r40
  · rw [f14.nrs 9001 0 (by decide), f9.nrs 9001 0 (by decide), f7.nrs 9001 0 (by decide)]; exact r41
  · rw [f14.nrs 9002 0 (by decide), f9.nrs 9002 0 (by decide), f7.nrs 9002 0 (by decide)]; exact r42
  · rw [f14.nrs 6000 1 (by decide), f9.nrs 6000 1 (by decide)]; exact r7
  · rw [f14.nra 7002 0 _ (by decide)]; exact r9 i i0 i1
theorem c_run {Q : Int → jS → Prop} {o rm : Int} (hn : n = 126) (hZ : cZ σ P.1 M) (hsc : 0 ≤ P.2.2.2.1 ∧ P.2.2.2.1 < tS P.1) (hrm : rm = if P.2.2.2.2 = true then 1 else 0) (hr : rwk r) (hf : fT σ o r)
    (hq : ∀ σa σ1 σ', rq σ σa → rs σa 6000 1 = 0 → aPost P σa σ1 (s00 r M) [] [] (x00 r) [(-1, -1)] (askW P M r) → (∀ t, (askW P M r).2.2.1 = some t → 0 < (expT (sM (askW P M r).1) t).length ∧ (expT (sM (askW P M r).1) t).length ≤ 200) → sq [(7002, 0)] σ1 σ' → ra σ' 7002 0 = upI (ra σ1 7002 0) 0 (endE (askW P M r)) → rq σ σ' → cZ σ' P.1 (sM (askW P M r).1) → Q (endE (askW P M r)) σ') : TrI n i_Search_run [jo 7 0, jo 0 o, ji P.2.2.2.1, ji P.2.1, ji P.2.2.1, ji rm] σ Q := by
  have hT := hZ.2.2.1.1
  have hr12 := hr.2.2
  refine wp_Search_run ⟨by omega, by omega, c_begin (P := P) (M := M) (by omega) hZ (fun s3 f3 ⟨v90, v91, v92, v60, v14, v15, v16, v17⟩ v72 => ⟨by rw [hrm]; split <;> simp, fun s5 e5 => ?_⟩)⟩
  obtain ⟨z1, z2, z3, z4, ⟨z5a, z5b, z5c, z5d, z5e, z5f⟩, z6, z7⟩ := hZ
  have f5 : sq [(7018, 0)] s3 s5 := by rw [e5]; exact (sq.rf _ s3).pws 7018 0 _ (by decide)
  have r5 : rs s5 7018 0 = rm := by rw [e5, rs_ws, if_pos ⟨rfl, rfl⟩]
  clear e5
  have F : sq ((7018, 0) :: bnF) σ s5 := (f3.mo (by decide)).tr (f5.mo (by decide))
  have K : cq ((7018, 0) :: bnF) σ s5 := F.cq (by decide)
  have C5 : cC s5 := z2.cq K (by decide)
  have hL5 : ∀ G q, rl s5 G q = rl σ G q := fun G q => F.nrl G q
  have T5 : cT s5 gz0 0 [] := by
    refine ⟨⟨z1.sq F, fun n n0 n1 => absurd n1 (by omega), trivial, by rw [f5.nrs 9000 0 (by decide)]; exact v90, by omega, by omega, Nat.zero_le _, ⟨?_, by rw [hL5]; exact z5a, by rw [hL5, hL5]; exact z5b, by rw [hL5, hL5]; exact z5c⟩, by rw [hL5]; exact z5d, fun n n0 n1 => absurd n1 (by omega), fun n n0 n1 => absurd n1 (by omega), fun n n0 n1 => absurd n1 (by omega), ⟨by rw [f5.nrs 9001 0 (by decide), v91]; rfl, ?_⟩, trivial⟩, fun i i0 i1 => ?_⟩
    · rw [hL5]; unfold gr2 at z5a; omega
    · rw [hL5]; show (0 : Int) ≤ _; unfold gr2 at z5d; omega
    · rw [hL5] at i1
      rw [F.nra 9004 0 _ (by decide)]
      exact z6 i i0 i1
  have B5 : cB s5 P (s00 r M) [] := by
    have g3 : gr3 (rl s5 6001 1) := by rw [hL5]; exact z5f
    have g2 : gr2 (rl s5 9007 0) := by rw [hL5]; exact z5e
    refine ⟨z1.sq F, C5, z3.cq K (by decide) (nofl (by decide)), ⟨?_, ?_, ?_, ?_⟩, ⟨?_, ?_, ?_, ?_, ?_⟩, fun d hd => absurd hd (by simp), z4.cq K (by decide) (by decide), ⟨?_, ?_, ?_, g3⟩, ⟨?_, ?_, g2⟩, K.2.2.2.2 z7⟩
    · rw [f5.nrs 7015 0 (by decide)]; exact v15
    · rw [f5.nrs 7016 0 (by decide)]; exact v16
    · rw [f5.nrs 7014 0 (by decide)]; exact v14
    · rw [r5]; exact hrm
    · rw [f5.nra 7002 0 _ (by decide)]; exact v72 1 (by decide) (by decide)
    · rw [f5.nra 7002 0 _ (by decide)]; exact v72 2 (by decide) (by decide)
    · rw [f5.nra 7002 0 _ (by decide)]; exact v72 3 (by decide) (by decide)
    · rw [f5.nra 7002 0 _ (by decide)]; exact v72 4 (by decide) (by decide)
    · rw [f5.nra 7002 0 _ (by decide)]; exact v72 7 (by decide) (by decide)
    · rw [f5.nrs 6000 1 (by decide), v60]; omega
    · rw [f5.nrs 6000 1 (by decide), v60]; show (0 : Int) ≤ 0; omega
    · rw [f5.nrs 6000 1 (by decide), v60]; unfold gr3 at g3; omega
    · rw [f5.nrs 9002 0 (by decide), v92]; omega
    · rw [f5.nrs 9002 0 (by decide), v92]; unfold gr2 at g2; omega
  have huu : unu (fun _ => -1) ≤ 26 := by
    unfold unu
    have := cnt_len (p := fun v : Int => decide ((fun _ : Int => (-1 : Int)) v = -1)) (l := zrg 26)
    rw [zrg_len] at this
    exact this
  have hz0 : zu gz0 0 = 0 := rfl
  have ff : fT s5 o r := hf.sq F (by decide)
  have o0 := hf.1
  rw [cC_at C5 7000 0 0 (by decide)]
  refine ⟨o0, by omega, c_build (g := gz0) (N := 0) (β := []) (vs := fun _ => -1) (by omega) T5 ff (fun v => Or.inl rfl) (Or.inr ⟨rfl, rfl⟩) hr.2.1 hr.1 (by omega) (by rw [hz0]; omega) (by omega) (fun s9 T9 _ q9 lk => ?_)⟩
  obtain ⟨o1, o2, o3, ⟨o4, o5⟩, o6, o7⟩ := s00_ok (M := M) lk hr
  have B9 : cB s9 P (s00 r M) [] := cB_cq2 B5 q9 (by decide) (by decide) (by decide) (nofl3 (by decide))
  have rqa : rq σ s9 := (K.rq (fun p hp => by
    have : ∀ p, p ∈ ((7018, 0) :: bnF : List (Nat × Int)) → rFp p.1 p.2 := by unfold rFp askFp bnF; decide
    exact this p hp)).tr (q9.rq (fun p hp => by
    have : ∀ p, p ∈ bF → rFp p.1 p.2 := by unfold rFp askFp bF; decide
    exact this p hp))
  have h60 : rs s9 6000 1 = 0 := by rw [q9.nrs 6000 1 (by decide) (by decide), f5.nrs 6000 1 (by decide)]; exact v60
  have h17 : rs s9 7017 0 = 0 := by rw [q9.nrs 7017 0 (by decide) (by decide), f5.nrs 7017 0 (by decide)]; exact v17
  have h92 : rs s9 9002 0 = 0 := by rw [q9.nrs 9002 0 (by decide) (by decide), f5.nrs 9002 0 (by decide)]; exact v92
  have main := c_askGoal (P := P) hsc 21 [] (by omega) rfl (s00 r M) (x00 r) (-1) (-1) [] s9 (fun zr12 zs11 => 0 ≤ rl zs11 7002 0 ∧ (if ¬ rs zs11 7017 0 = 0 then 0 < rl zs11 7002 0 ∧ (∀ zs14, zs14 = wa zs11 7002 0 0 (rs zs11 7017 0) → 0 ≤ rl zs14 7002 0 ∧ 0 < rl zs14 7002 0 ∧ Q (ra zs14 7002 0 0) zs14) else (if ¬ zr12 = 0 then 0 < rl zs11 7002 0 ∧ (∀ zs18, zs18 = wa zs11 7002 0 0 (rs zs11 7017 0) → 0 ≤ rl zs18 7002 0 ∧ 0 < rl zs18 7002 0 ∧ Q (ra zs18 7002 0 0) zs18) else 0 < rl zs11 7002 0 ∧ (∀ zs22, zs22 = wa zs11 7002 0 0 1 → 0 ≤ rl zs22 7002 0 ∧ 0 < rl zs22 7002 0 ∧ Q (ra zs22 7002 0 0) zs22)))) B9 ⟨T9, o1, o2⟩ o3 h17 o4 o5 (by show hN (s00 r M) ≤ 12 + 120 * 0; omega) (by show (zu (hG (s00 r M)) (hN (s00 r M)) : Int) ≤ 12 + 52 * 0; omega) (by rw [h92]; omega) (fun p hp => by cases hp) (fun v s11 hp hv hl => ?_)
  · subst hn
    exact main
  · have hp2 : aPost P s9 s11 (s00 r M) [] [] (x00 r) [(-1, -1)] (askW P M r) := hp
    have hv2 : v = match (askW P M r).2.2.1 with
        | none => 0
        | some t => ((expT (sM (askW P M r).1) t).length : Int) := hv
    have hl2 : ∀ t, (askW P M r).2.2.1 = some t → 0 < (expT (sM (askW P M r).1) t).length ∧ (expT (sM (askW P M r).1) t).length ≤ 200 := hl
    have hB : cB s11 P (askW P M r).1 [] := hp2.2.1
    obtain ⟨nw, g', N', hcT, -⟩ := hp2.2.2.2.2.2.2.1
    have hz11 := hB.z hcT
    have l02 := cln_at hB.1 7002 0 9 (by decide)
    have h17' : rs s11 7017 0 = (askW P M r).2.1 := hp2.2.2.1
    have fin : ∀ e s14, e = endE (askW P M r) → s14 = wa s11 7002 0 0 e → 0 ≤ rl s14 7002 0 ∧ 0 < rl s14 7002 0 ∧ Q (ra s14 7002 0 0) s14 := by
      intro e s14 he e14
      have f14 : sq [(7002, 0)] s11 s14 := by rw [e14]; exact (sq.rf _ s11).pwa 7002 0 _ _ (by decide)
      have r14 : ra s14 7002 0 = upI (ra s11 7002 0) 0 e := by
        rw [e14]
        unfold wa
        rw [raf_wA, if_pos ⟨rfl, rfl⟩]
      have k14 : cq [(7002, 0)] s11 s14 := f14.cq (by decide)
      rw [f14.nrl 7002 0, l02]
      refine ⟨by omega, by omega, ?_⟩
      have r0 : ra s14 7002 0 0 = e := by rw [r14]; unfold upI; rw [if_pos rfl]
      rw [r0, he]
      rw [he] at r14
      obtain ⟨y1, y2, y3, y4, ⟨y5a, y5b, y5c, y5d, y5e, y5f⟩, y6, y7⟩ := hz11
      refine hq s9 s11 s14 rqa h60 hp2 hl2 f14 r14 ((rqa.tr hp2.1.rq).tr (k14.rq (fun p hp => by
        have : ∀ p, p ∈ ([(7002, 0)] : List (Nat × Int)) → rFp p.1 p.2 := by unfold rFp askFp; decide
        exact this p hp))) ⟨y1.sq f14, y2.cq k14 (by decide), y3.cq k14 (by decide) (nofl (by decide)), y4.cq k14 (by decide) (by decide), ?_, fun i i0 i1 => ?_, k14.2.2.2.2 y7⟩
      · rw [f14.nrl, f14.nrl, f14.nrl, f14.nrl, f14.nrl, f14.nrl]
        exact ⟨y5a, y5b, y5c, y5d, y5e, y5f⟩
      · rw [f14.nrl] at i1
        rw [f14.nra 9004 0 _ (by decide)]
        exact y6 i i0 i1
    rw [l02]
    refine ⟨by omega, ?_⟩
    by_cases q : (askW P M r).2.1 = 0
    · rw [if_neg (fun w => w (h17'.trans q))]
      cases ht : (askW P M r).2.2.1 with
      | none =>
        rw [ht] at hv2
        have hv3 : v = 0 := hv2
        rw [if_neg (fun w => w hv3)]
        refine ⟨by omega, fun s22 e22 => fin 1 s22 ?_ e22⟩
        unfold endE
        rw [if_pos q, ht]
      | some t =>
        rw [ht] at hv2
        have hv3 : v = ((expT (sM (askW P M r).1) t).length : Int) := hv2
        have := (hl2 t ht).1
        rw [if_pos (by omega)]
        refine ⟨by omega, fun s18 e18 => fin _ s18 ?_ e18⟩
        unfold endE
        rw [if_pos q, ht, h17', q]
    · rw [if_pos (by rw [h17']; exact q)]
      refine ⟨by omega, fun s14 e14 => fin _ s14 ?_ e14⟩
      unfold endE
      rw [if_neg q, h17']
end ZRn
