/-! A text is told: the class. -/
def tFpB (tx : Int) (F : Nat) (o : Int) : Bool := decide (((F = 8001 ∨ F = 8003) ∧ o = 0) ∨ (10000 ≤ F ∧ F ≤ 10006 ∧ o = tx) ∨ ((F = 0 ∨ F = 1) ∧ 2 + 120 * tx ≤ o ∧ o < 122 + 120 * tx))
/-- what a text that is bad changes -/
def u0F (tx : Int) (F : Nat) (o : Int) : Bool := tFpB tx F o || ([(8000, 0), (12008, 0)] : List (Nat × Int)).contains (F, o)
/-- what a text that is good changes -/
def u1F (tx : Int) (F : Nat) (o : Int) : Bool := u0F tx F o || ([(4000, tx), (10009, tx), (12005, 0), (12006, 0), (7019, 0), (5000, 0), (6000, 0), (3002, 0), (12009, 0), (12010, 0), (12011, 0), (6000, 2), (3002, 1)] : List (Nat × Int)).contains (F, o)
/-- the two texts -/
def cX2 (σ : jS) : Prop := (∀ tx : Int, (tx = 0 ∨ tx = 1) → ∀ j, 0 ≤ j → j < 120 → ra σ 10008 tx j = 2 + 120 * tx + j) ∧ rs σ 12006 0 = 1 - rs σ 12005 0
section ZSc
variable {n : Nat} {σ0 σ σ1 σ2 : jS} {D : List Int} {T : zT} {M : zM} {W W' : Nat → Int → Bool} {tx : Int}
theorem u0F_of {F : Nat} {o : Int} (h : tFp tx F o) : u0F tx F o = true := by
  unfold u0F tFpB
  unfold tFp at h
  rw [Bool.or_eq_true]
  exact Or.inl (decide_eq_true h)
/-- the search is told its text, and nothing is remembered -/
theorem c_forget {Q : jS → Prop} (hn : 2 ≤ n) (hC : cC σ) (hq : ∀ σ', sq [(5000, 0), (6000, 0), (3002, 0)] σ σ' → rs σ' 5000 0 = 0 → rs σ' 6000 0 = 0 → rs σ' 3002 0 = 0 → Q σ') : TrV n i_Memory_forget [jo 5 0] σ Q := by
  have t53 := cC_at hC 5003 0 0 (by decide)
  have t30 := cC_at hC 3000 0 0 (by decide)
  refine wp_Memory_forget ⟨by omega, fun s2 e2 => ?_⟩
  have f2 : sq [(5000, 0)] σ s2 := by rw [e2]; exact (sq.rf _ σ).pws 5000 0 _ (by decide)
  have r2 : rs s2 5000 0 = 0 := by rw [e2, rs_ws, if_pos ⟨rfl, rfl⟩]
  clear e2
  rw [f2.nrs 5003 0 (by decide), t53]
  refine ⟨by omega, by omega, wp_Forest_clear ⟨by omega, ?_⟩⟩
  rw [f2.nrs 3000 0 (by decide), t30]
  refine ⟨by omega, fun s3 e3 s4 e4 => ?_⟩
  have f3 : sq [(6000, 0)] s2 s3 := by rw [e3]; exact (sq.rf _ s2).pws 6000 0 _ (by decide)
  have r3 : rs s3 6000 0 = 0 := by rw [e3, rs_ws, if_pos ⟨rfl, rfl⟩]
  clear e3
  have f4 : sq [(3002, 0)] s3 s4 := by rw [e4]; exact (sq.rf _ s3).pws 3002 0 _ (by decide)
  have r4 : rs s4 3002 0 = 0 := by rw [e4, rs_ws, if_pos ⟨rfl, rfl⟩]
  clear e4
  exact hq s4 (((f2.mo (by decide)).tr (f3.mo (by decide))).tr (f4.mo (by decide))) (by rw [f4.nrs 5000 0 (by decide), f3.nrs 5000 0 (by decide)]; exact r2) (by rw [f4.nrs 6000 0 (by decide)]; exact r3) r4
/-- the tree is cleared -/
theorem c_treeClear {Q : jS → Prop} (hC : cC σ) (hq : ∀ σ', sq [(6000, 2), (3002, 1)] σ σ' → rs σ' 6000 2 = 0 → rs σ' 3002 1 = 0 → Q σ') : TrV n i_Forest_clear [jo 3 1] σ Q := by
  have t30 := cC_at hC 3000 1 2 (by decide)
  refine wp_Forest_clear ⟨by omega, ?_⟩
  rw [t30]
  refine ⟨by omega, fun s3 e3 s4 e4 => ?_⟩
  have f3 : sq [(6000, 2)] σ s3 := by rw [e3]; exact (sq.rf _ σ).pws 6000 2 _ (by decide)
  have r3 : rs s3 6000 2 = 0 := by rw [e3, rs_ws, if_pos ⟨rfl, rfl⟩]
  clear e3
  have f4 : sq [(3002, 1)] s3 s4 := by rw [e4]; exact (sq.rf _ s3).pws 3002 1 _ (by decide)
  have r4 : rs s4 3002 1 = 0 := by rw [e4, rs_ws, if_pos ⟨rfl, rfl⟩]
  clear e4
  exact hq s4 ((f3.mo (by decide)).tr (f4.mo (by decide))) (by rw [f4.nrs 6000 2 (by decide)]; exact r3) r4
theorem cX2.fq (h : cX2 σ) (e : fq W σ σ1) (hl : ([(10008, 0), (10008, 1), (12005, 0), (12006, 0)] : List (Nat × Int)).all (fun p => !W p.1 p.2) = true) : cX2 σ1 := by
  have hm : ∀ p, p ∈ ([(10008, 0), (10008, 1), (12005, 0), (12006, 0)] : List (Nat × Int)) → W p.1 p.2 = false := fun p hp => by
    have := List.all_eq_true.mp hl p hp
    simpa using this
  obtain ⟨h1, h2⟩ := h
  refine ⟨fun tx htx j j0 j1 => ?_, by rw [e.s 12006 0 (by decide) (hm (12006, 0) (by decide)), e.s 12005 0 (by decide) (hm (12005, 0) (by decide))]; exact h2⟩
  rw [e.a 10008 tx j (by decide) (by rcases htx with w | w <;> rw [w]; exact hm (10008, 0) (by decide); exact hm (10008, 1) (by decide))]
  exact h1 tx htx j j0 j1
set_option maxRecDepth 8000 in
theorem c_scopes {Q : Int → jS → Prop} (hn : 11 ≤ n) (hZ : cZ σ T M) (hX : cX2 σ) (hD : cTp σ D) (htx : rs σ 12006 0 = tx)
    (hq1 : (rdTx D).1 = true → ∀ σ', fq (u1F tx) σ σ' → rs σ' 12008 0 = -1 → rs σ' 8000 0 = 0 → rs σ' 12009 0 = 0 → rs σ' 12010 0 = 0 → ra σ' 12011 0 0 = -1 → rs σ' 6000 2 = 0 → rs σ' 3002 1 = 0 → cZ σ' (txT (rdTx D).2.2) [] → cX2 σ' → Q (tG (txT (rdTx D).2.2)) σ')
    (hq0 : (rdTx D).1 = false → ∀ σ', fq (u0F tx) σ σ' → rs σ' 12008 0 = (((rdTx D).2.1 : Nat) : Int) → rs σ' 8000 0 = 0 → cZ σ' T M → cX2 σ' → Q (-1) σ') : TrI n i_Top_scopes [jo 12 0] σ Q := by
  have hZ0 := hZ
  obtain ⟨z1, z2, z3, z4, z5, z6, z7⟩ := hZ
  have t12 := cC_at z2 12000 0 0 (by decide)
  have hX0 := hX
  obtain ⟨x1, x2⟩ := hX
  have htx05 : rs σ 12005 0 = 1 - tx := by omega
  obtain ⟨ux, hux, k19, k05⟩ : ∃ ux, (ux = 0 ∨ ux = 1) ∧ rs σ 7019 0 = ux ∧ rs σ 12005 0 = ux := by
    obtain ⟨-, ux, q1, q2, q3, -⟩ := z3
    exact ⟨ux, q1, q2, q3⟩
  have htx2 : tx = 0 ∨ tx = 1 := by omega
  refine wp_Top_scopes ⟨by omega, by omega, by omega, ?_⟩
  rw [t12, htx]
  refine c_readText (D := D) (by omega) z1 hD htx2 (x1 tx htx2) z2.2.2 (fun hx s4 e4 hN => ?_) (fun hx s4 e4 v8 => ?_)
  · have hI : txI (rdTx D).2.2 := rdTx_ok.2 hx
    have hq1 := hq1 hx
    revert hI hN hq1
    generalize (rdTx D).2.2 = X
    intro hN hI hq1
    have g4 : fq (u0F tx) σ s4 := e4.fq (fun F o => u0F_of)
    rw [if_neg (by decide)]
    intro s30 e30
    have f30 : sq [(12008, 0)] s4 s30 := by rw [e30]; exact (sq.rf _ s4).pws 12008 0 _ (by decide)
    have r30 : rs s30 12008 0 = -1 := by rw [e30, rs_ws, if_pos ⟨rfl, rfl⟩]
    clear e30
    have c4 : cC s4 := z2.fq g4 (by rcases htx2 with w | w <;> rw [w] <;> decide)
    rw [f30.nrs 12000 0 (by decide), cC_at c4 12000 0 0 (by decide)]
    refine ⟨by omega, fun s32 e32 => ?_⟩
    have f32 : sq [(8000, 0)] s30 s32 := by rw [e32]; exact (sq.rf _ s30).pws 8000 0 _ (by decide)
    have r32 : rs s32 8000 0 = 0 := by rw [e32, rs_ws, if_pos ⟨rfl, rfl⟩]
    clear e32
    rw [if_pos (by decide)]
    have f432 : sq [(8000, 0), (12008, 0)] s4 s32 := (f30.mo (by decide)).tr (f32.mo (by decide))
    have g32 : fq (u0F tx) σ s32 := g4.tr (f432.fq (by rcases htx2 with w | w <;> rw [w] <;> decide))
    have v05 : rs s32 12005 0 = 1 - tx := by rw [g32.s 12005 0 (by decide) (by rcases htx2 with w | w <;> rw [w] <;> decide)]; exact htx05
    have v06 : rs s32 12006 0 = tx := by rw [g32.s 12006 0 (by decide) (by rcases htx2 with w | w <;> rw [w] <;> decide)]; exact htx
    rw [v05, v06]
    refine ⟨by omega, by omega, fun s34 e34 => ⟨by omega, fun s37 e37 => ?_⟩⟩
    have f34 : sq [(12005, 0)] s32 s34 := by rw [e34]; exact (sq.rf _ s32).pws 12005 0 _ (by decide)
    have r34 : rs s34 12005 0 = tx := by rw [e34, rs_ws, if_pos ⟨rfl, rfl⟩]
    clear e34
    have f37 : sq [(12006, 0)] s34 s37 := by rw [e37]; exact (sq.rf _ s34).pws 12006 0 _ (by decide)
    have r37 : rs s37 12006 0 = 1 - tx := by rw [e37, rs_ws, if_pos ⟨rfl, rfl⟩]
    clear e37
    have f3237 : sq [(12005, 0), (12006, 0)] s32 s37 := (f34.mo (by decide)).tr (f37.mo (by decide))
    rw [f37.nrs 12005 0 (by decide), r34]
    have up : ∀ {a b : jS}, fq (u0F tx) a b → fq (u1F tx) a b := fun h => ⟨fun F o q q2 => h.1 F o q (fun w => q2 (show u1F tx F o = true by unfold u1F; rw [show u0F tx F o = true from w]; rfl)), h.2⟩
    have g37 : fq (u1F tx) σ s37 := (up g32).tr (f3237.fq (by rcases htx2 with w | w <;> rw [w] <;> decide))
    have l37 : cln s37 := z1.fq g37
    have f437 : sq [(8000, 0), (12008, 0), (12005, 0), (12006, 0)] s4 s37 := (f432.mo (by decide)).tr (f3237.mo (by decide))
    have hN37 : cNx s37 tx X := by
      obtain ⟨n1, n2, n3, n4⟩ := hN
      have nt : ∀ F, 10000 ≤ F → F < 12000 → ([(8000, 0), (12008, 0), (12005, 0), (12006, 0)] : List (Nat × Int)).contains (F, tx) = false := fun F h1 h2 => by
        simp
        omega
      refine ⟨by rw [f437.nrs 10000 tx (nt _ (by omega) (by omega))]; exact n1, by rw [f437.nrs 10001 tx (nt _ (by omega) (by omega))]; exact n2, fun k hk => ?_, fun g hg => ?_⟩
      · rw [f437.nra 10002 tx _ (nt _ (by omega) (by omega)), f437.nra 10003 tx _ (nt _ (by omega) (by omega)), f437.nra 10004 tx _ (nt _ (by omega) (by omega))]
        exact n3 k hk
      · rw [f437.nra 10005 tx _ (nt _ (by omega) (by omega)), f437.nra 10006 tx _ (nt _ (by omega) (by omega))]
        obtain ⟨a1, a2, a3⟩ := n4 g hg
        exact ⟨a1, a2, fun i hi => (a3 i hi).sq f437 (by decide)⟩
    have x37 : ∀ tx' : Int, (tx' = 0 ∨ tx' = 1) → ∀ j, 0 ≤ j → j < 120 → ra s37 10008 tx' j = 2 + 120 * tx' + j := fun tx' h' j j0 j1 => by
      rw [g37.a 10008 tx' j (by decide) (by rcases htx2 with w | w <;> rcases h' with w' | w' <;> rw [w, w'] <;> decide)]
      exact x1 tx' h' j j0 j1
    have c37 : cC s37 := z2.fq g37 (by rcases htx2 with w | w <;> rw [w] <;> decide)
    have h7 : rs s37 10007 tx = tx := by
      rcases htx2 with w | w
      · rw [w]; exact cC_at c37 10007 0 0 (by decide)
      · rw [w]; exact cC_at c37 10007 1 1 (by decide)
    refine ⟨by omega, c_settle (R := fun g => tR (txT X) g 0) (by omega) l37 htx2 (x37 tx htx2) h7 hN37.2.1 hI.2.2.1 (fun g g0 g1 => ?_) (fun s39 e39 hB => ?_)⟩
    · obtain ⟨a1, a2, a3⟩ := hN37.2.2.2 g.toNat (by omega)
      have hmem : X.2.2.getD g.toNat (0, []) ∈ X.2.2 := gd_mem (by omega)
      obtain ⟨-, b2, b3⟩ := hI.2.2.2.2 _ hmem
      have b4 := a3 0 (by omega)
      rw [show ((g.toNat : Nat) : Int) = g by omega] at b4
      refine ⟨b4, b3 _ ?_⟩
      show (X.2.2.getD g.toNat (0, [])).2.getD 0 [] ∈ _
      exact gd_mem (by omega)
    have n39 : ∀ F o, ¬ F = 4000 → ¬ F = 10009 → ([(4000, tx), (10009, tx)] : List (Nat × Int)).contains (F, o) = false := fun F o h1 h2 => by
      simp
      omega
    have g39 : fq (u1F tx) σ s39 := g37.tr (e39.fq (by rcases htx2 with w | w <;> rw [w] <;> decide))
    have c39 : cC s39 := z2.fq g39 (by rcases htx2 with w | w <;> rw [w] <;> decide)
    have v39 : rs s39 12005 0 = tx := by rw [e39.nrs 12005 0 (n39 _ _ (by decide) (by decide)), f37.nrs 12005 0 (by decide)]; exact r34
    rw [cC_at c39 12007 0 0 (by decide), v39]
    refine ⟨by omega, wp_Search_tell ⟨by omega, by omega, fun s40 e40 => ?_⟩⟩
    have f40 : sq [(7019, 0)] s39 s40 := by rw [e40]; exact (sq.rf _ s39).pws 7019 0 _ (by decide)
    have r40 : rs s40 7019 0 = tx := by rw [e40, rs_ws, if_pos ⟨rfl, rfl⟩]
    clear e40
    have g40 : fq (u1F tx) σ s40 := g39.tr (f40.fq (by rcases htx2 with w | w <;> rw [w] <;> decide))
    have c40 : cC s40 := z2.fq g40 (by rcases htx2 with w | w <;> rw [w] <;> decide)
    rw [cC_at c40 7001 0 0 (by decide)]
    refine ⟨by omega, by omega, c_forget (by omega) c40 (fun s42 e42 q1 q2 q3 s44 e44 s45 e45 => ?_)⟩
    have f44 : sq [(12009, 0)] s42 s44 := by rw [e44]; exact (sq.rf _ s42).pws 12009 0 _ (by decide)
    have r44 : rs s44 12009 0 = 0 := by rw [e44, rs_ws, if_pos ⟨rfl, rfl⟩]
    clear e44
    have f45 : sq [(12010, 0)] s44 s45 := by rw [e45]; exact (sq.rf _ s44).pws 12010 0 _ (by decide)
    have r45 : rs s45 12010 0 = 0 := by rw [e45, rs_ws, if_pos ⟨rfl, rfl⟩]
    clear e45
    have f3945 : sq [(7019, 0), (5000, 0), (6000, 0), (3002, 0), (12009, 0), (12010, 0)] s39 s45 := (((f40.mo (by decide)).tr (e42.mo (by decide))).tr (f44.mo (by decide))).tr (f45.mo (by decide))
    have g45 : fq (u1F tx) σ s45 := g39.tr (f3945.fq (by rcases htx2 with w | w <;> rw [w] <;> decide))
    have l11 := cln_at (z1.fq g45) 12011 0 9 (by decide)
    rw [l11]
    refine ⟨by omega, by omega, fun s47 e47 => ?_⟩
    have f47 : sq [(12011, 0)] s45 s47 := by rw [e47]; exact (sq.rf _ s45).pwa 12011 0 _ _ (by decide)
    have r47 : ra s47 12011 0 0 = -1 := by
      rw [e47]
      unfold wa
      rw [raf_wA, if_pos ⟨rfl, rfl⟩]
      rfl
    clear e47
    have g47 : fq (u1F tx) σ s47 := g45.tr (f47.fq (by rcases htx2 with w | w <;> rw [w] <;> decide))
    have c47 : cC s47 := z2.fq g47 (by rcases htx2 with w | w <;> rw [w] <;> decide)
    rw [cC_at c47 12014 0 1 (by decide)]
    refine ⟨by omega, c_treeClear c47 (fun s50 e50 q4 q5 => ?_)⟩
    have g50 : fq (u1F tx) σ s50 := g47.tr (e50.fq (by rcases htx2 with w | w <;> rw [w] <;> decide))
    have f4250 : sq [(12009, 0), (12010, 0), (12011, 0), (6000, 2), (3002, 1)] s42 s50 := (((f44.mo (by decide)).tr (f45.mo (by decide))).tr (f47.mo (by decide))).tr (e50.mo (by decide))
    have f3950 : sq [(7019, 0), (5000, 0), (6000, 0), (3002, 0), (12009, 0), (12010, 0), (12011, 0), (6000, 2), (3002, 1)] s39 s50 := ((f40.mo (by decide)).tr (e42.mo (by decide))).tr (f4250.mo (by decide))
    have w05 : rs s50 12005 0 = tx := by rw [f3950.nrs 12005 0 (by decide)]; exact v39
    have w19 : rs s50 7019 0 = tx := by rw [f4250.nrs 7019 0 (by decide), e42.nrs 7019 0 (by decide)]; exact r40
    have w06 : rs s50 12006 0 = 1 - tx := by rw [f3950.nrs 12006 0 (by decide), e39.nrs 12006 0 (n39 _ _ (by decide) (by decide))]; exact r37
    have hN50 : cNx s50 tx X := by
      obtain ⟨n1, n2, n3, n4⟩ := hN37
      have nt : ∀ F, 10000 ≤ F → F < 12000 → ([(7019, 0), (5000, 0), (6000, 0), (3002, 0), (12009, 0), (12010, 0), (12011, 0), (6000, 2), (3002, 1)] : List (Nat × Int)).contains (F, tx) = false := fun F h1 h2 => by
        simp
        omega
      refine ⟨by rw [f3950.nrs 10000 tx (nt _ (by omega) (by omega)), e39.nrs 10000 tx (n39 _ _ (by decide) (by decide))]; exact n1, by rw [f3950.nrs 10001 tx (nt _ (by omega) (by omega)), e39.nrs 10001 tx (n39 _ _ (by decide) (by decide))]; exact n2, fun k hk => ?_, fun g hg => ?_⟩
      · rw [f3950.nra 10002 tx _ (nt _ (by omega) (by omega)), f3950.nra 10003 tx _ (nt _ (by omega) (by omega)), f3950.nra 10004 tx _ (nt _ (by omega) (by omega)), e39.nra 10002 tx _ (n39 _ _ (by decide) (by decide)), e39.nra 10003 tx _ (n39 _ _ (by decide) (by decide)), e39.nra 10004 tx _ (n39 _ _ (by decide) (by decide))]
        exact n3 k hk
      · rw [f3950.nra 10005 tx _ (nt _ (by omega) (by omega)), f3950.nra 10006 tx _ (nt _ (by omega) (by omega)), e39.nra 10005 tx _ (n39 _ _ (by decide) (by decide)), e39.nra 10006 tx _ (n39 _ _ (by decide) (by decide))]
        obtain ⟨a1, a2, a3⟩ := n4 g hg
        exact ⟨a1, a2, fun i hi => ((a3 i hi).sq e39 (by simp)).sq f3950 (by decide)⟩
    have hT50 : cTx s50 (txT X) := by
      refine cTx_of htx2 hI hN50 w19 w05 (fun j j0 j1 => ?_) (fun g g0 g1 => ?_)
      · rw [g50.a 10008 tx j (by decide) (by rcases htx2 with w | w <;> rw [w] <;> decide)]
        exact x1 tx htx2 j j0 j1
      · rw [f3950.nra 10009 tx _ (by rcases htx2 with w | w <;> rw [w] <;> decide)]
        exact hB g g0 g1
    have y42 : rs s50 5000 0 = 0 := by rw [f4250.nrs 5000 0 (by decide)]; exact q1
    have y43 : rs s50 6000 0 = 0 := by rw [f4250.nrs 6000 0 (by decide)]; exact q2
    have y44 : rs s50 3002 0 = 0 := by rw [f4250.nrs 3002 0 (by decide)]; exact q3
    have hR : memR s50 [] := memR_nil z4 g50 (by rcases htx2 with w | w <;> rw [w] <;> decide) y42 y43 y44
    have hGv : rs s50 10001 tx = tG (txT X) := hN50.2.1
    rw [w05, hGv]
    refine ⟨by omega, hq1 s50 g50 ?_ ?_ ?_ ?_ ?_ q4 q5 ⟨z1.fq g50, z2.fq g50 (by rcases htx2 with w | w <;> rw [w] <;> decide), hT50, hR, ?_, z6.fq g50 (by rcases htx2 with w | w <;> rw [w] <;> decide), z7.fq g50⟩ ⟨fun tx' h' j j0 j1 => ?_, by rw [w06, w05]⟩⟩
    · rw [f3950.nrs 12008 0 (by decide), e39.nrs 12008 0 (n39 _ _ (by decide) (by decide)), f3237.nrs 12008 0 (by decide), f32.nrs 12008 0 (by decide)]; exact r30
    · rw [f3950.nrs 8000 0 (by decide), e39.nrs 8000 0 (n39 _ _ (by decide) (by decide)), f3237.nrs 8000 0 (by decide)]; exact r32
    · rw [e50.nrs 12009 0 (by decide), f47.nrs 12009 0 (by decide), f45.nrs 12009 0 (by decide)]; exact r44
    · rw [e50.nrs 12010 0 (by decide), f47.nrs 12010 0 (by decide)]; exact r45
    · rw [e50.nra 12011 0 _ (by decide)]; exact r47
    · rw [g50.l 9003 0, g50.l 9004 0, g50.l 9005 0, g50.l 9006 0, g50.l 9007 0, g50.l 6001 1]
      exact z5
    · rw [g50.a 10008 tx' j (by decide) (by rcases htx2 with w | w <;> rcases h' with w' | w' <;> rw [w, w'] <;> decide)]
      exact x1 tx' h' j j0 j1
  · have g4 : fq (u0F tx) σ s4 := e4.fq (fun F o => u0F_of)
    have c4 : cC s4 := z2.fq g4 (by rcases htx2 with w | w <;> rw [w] <;> decide)
    rw [if_pos rfl, cC_at c4 12000 0 0 (by decide)]
    refine ⟨by omega, fun s7 e7 => ?_⟩
    rw [v8] at e7
    have f7 : sq [(12008, 0)] s4 s7 := by rw [e7]; exact (sq.rf _ s4).pws 12008 0 _ (by decide)
    have r7 : rs s7 12008 0 = (((rdTx D).2.1 : Nat) : Int) := by rw [e7, rs_ws, if_pos ⟨rfl, rfl⟩]
    clear e7
    rw [f7.nrs 12000 0 (by decide), cC_at c4 12000 0 0 (by decide)]
    refine ⟨by omega, fun s9 e9 => ?_⟩
    have f9 : sq [(8000, 0)] s7 s9 := by rw [e9]; exact (sq.rf _ s7).pws 8000 0 _ (by decide)
    have r9 : rs s9 8000 0 = 0 := by rw [e9, rs_ws, if_pos ⟨rfl, rfl⟩]
    clear e9
    rw [if_neg (by decide)]
    have f49 : sq [(8000, 0), (12008, 0)] s4 s9 := (f7.mo (by decide)).tr (f9.mo (by decide))
    have g9 : fq (u0F tx) σ s9 := g4.tr (f49.fq (by rcases htx2 with w | w <;> rw [w] <;> decide))
    have nq : ∀ F, 10000 ≤ F → F ≤ 10009 → u0F tx F (1 - tx) = false := fun F h1 h2 => by
      unfold u0F tFpB
      rw [Bool.or_eq_false_iff]
      refine ⟨decide_eq_false (by omega), ?_⟩
      simp
      omega
    have hT9 : cTx s9 T := by
      obtain ⟨p1, vx, p2, p3, p4, p5, p6, p7, p8, p9⟩ := z3
      have evx : vx = 1 - tx := by omega
      subst evx
      refine ⟨p1, 1 - tx, p2, by rw [g9.s 7019 0 (by decide) (by rcases htx2 with w | w <;> rw [w] <;> decide)]; exact p3, by rw [g9.s 12005 0 (by decide) (by rcases htx2 with w | w <;> rw [w] <;> decide)]; exact p4, by rw [g9.s 10000 _ (by decide) (nq _ (by omega) (by omega))]; exact p5, by rw [g9.s 10001 _ (by decide) (nq _ (by omega) (by omega))]; exact p6, fun j j0 j1 => by rw [g9.a 10008 _ _ (by decide) (nq _ (by omega) (by omega))]; exact p7 j j0 j1, fun k k0 k1 => ?_, fun g g0 g1 => ?_⟩
      · rw [g9.a 10002 _ _ (by decide) (nq _ (by omega) (by omega)), g9.a 10003 _ _ (by decide) (nq _ (by omega) (by omega)), g9.a 10004 _ _ (by decide) (nq _ (by omega) (by omega))]
        exact p8 k k0 k1
      · rw [g9.a 10005 _ _ (by decide) (nq _ (by omega) (by omega)), g9.a 10006 _ _ (by decide) (nq _ (by omega) (by omega)), g9.a 10009 _ _ (by decide) (nq _ (by omega) (by omega))]
        obtain ⟨c1, c2, c3, c4⟩ := p9 g g0 g1
        have hG := p1.2.2.2.1
        have hNn := (p1.2.2.2.2.2 g g0 g1).2.2.2.1
        have nf : ∀ (F : Nat) (o : Int), F = 0 ∨ F = 1 → 2 + 120 * (1 - tx) ≤ o → o < 122 + 120 * (1 - tx) → u0F tx F o = false := fun F o h0 h1 h2 => by
          unfold u0F tFpB
          rw [Bool.or_eq_false_iff]
          refine ⟨decide_eq_false (by omega), ?_⟩
          simp
          omega
        exact ⟨c1, c2, fun i hi => (c3 i hi).fq g9 (nf _ _ (Or.inl rfl) (by omega) (by omega)) (nf _ _ (Or.inr rfl) (by omega) (by omega)), c4⟩
    have hR : memR s9 M := z4.fq g9 (by rcases htx2 with w | w <;> rw [w] <;> decide) (fun o ho => by
      unfold u0F tFpB
      rw [Bool.or_eq_false_iff, Bool.or_eq_false_iff]
      refine ⟨⟨decide_eq_false (by omega), ?_⟩, decide_eq_false (by omega), ?_⟩ <;> (simp))
    exact hq0 hx s9 g9 (by rw [f9.nrs 12008 0 (by decide)]; exact r7) r9 ⟨z1.fq g9, z2.fq g9 (by rcases htx2 with w | w <;> rw [w] <;> decide), hT9, hR, by rw [g9.l 9003 0, g9.l 9004 0, g9.l 9005 0, g9.l 9006 0, g9.l 9007 0, g9.l 6001 1]; exact z5, z6.fq g9 (by rcases htx2 with w | w <;> rw [w] <;> decide), z7.fq g9⟩ (hX0.fq g9 (by rcases htx2 with w | w <;> rw [w] <;> decide))
end ZSc
