/-! Between two calls: what the class holds, what the reference holds. -/
/-- the latest asking: how it ended, its state, THE TREE, both, the goal they are for, the GOAL, its SCOPE -/
abbrev zK : Type := Int × zS × List zN × Int × Int × List Int × List Int × Int
/-- THE TEXT, what is remembered, the tape, the fault, OUT, SHUT, the TYPES, what was written, the latest asking -/
abbrev zA : Type := zT × zM × List Int × Int × Int × Int × (Nat → List Int) × List Int × Option zK
def aT (A : zA) : zT := A.1
def aM (A : zA) : zM := A.2.1
def aD (A : zA) : List Int := A.2.2.1
def aF (A : zA) : Int := A.2.2.2.1
def aO (A : zA) : Int := A.2.2.2.2.1
def aU (A : zA) : Int := A.2.2.2.2.2.1
def aY (A : zA) : Nat → List Int := A.2.2.2.2.2.2.1
def aW (A : zA) : List Int := A.2.2.2.2.2.2.2.1
def aK (A : zA) : Option zK := A.2.2.2.2.2.2.2.2
def cAs (σ : jS) : Option zK → Prop
  | none => ra σ 12011 0 0 = -1 ∧ cTr σ []
  | some (e, s, W, a, b, c, r, k) => aPc σ e s W a b c r k
def mAs (σ : jS) : Option zK → Prop
  | none => rs σ 1051 0 = 0
  | some (e, s, W, a, b, c, r, k) => aPm σ e s W a b c r k
def pAs (T : zT) : Option zK → Prop
  | none => True
  | some (e, _, W, _, _, c, r, k) => aPp T e W c r k
def cI (σ : jS) (A : zA) : Prop := cZ σ (aT A) (aM A) ∧ cX2 σ ∧ cTp σ (aD A) ∧ (rs σ 12008 0 = aF A ∧ rs σ 12009 0 = aO A ∧ rs σ 12010 0 = aU A) ∧ pYc σ (aY A) ∧ cW σ (aW A) ∧ cAs σ (aK A)
def mI (σ : jS) (A : zA) : Prop := mln σ ∧ mTx σ (aT A) ∧ mMem σ (aM A) ∧ mTp σ (aD A) ∧ (rs σ 1003 0 = aF A ∧ rs σ 1015 0 = aO A ∧ rs σ 1016 0 = aU A) ∧ pYm σ (aY A) ∧ mW σ (aW A) ∧ mAs σ (aK A)
def pI (A : zA) : Prop := gdM (aT A) (aM A) ∧ rmM (aM A) ∧ pAs (aT A) (aK A) ∧ (aW A).length ≤ 2000
/-- the script stays -/
def scq (σ σ' : jS) : Prop := ra σ' 800000 0 = ra σ 800000 0 ∧ rl σ' 800000 0 = rl σ 800000 0
/-- a call in both: one answer, and the two hold the same again -/
def bOK (σ : jS) (r r' : Int) (σ' : jS) : Prop := r = r' ∧ scq σ σ' ∧ ∃ A, cI σ' A ∧ mI σ' A ∧ pI A
section ZAb
variable {n : Nat} {σ0 σ σ1 σ2 : jS} {A : zA} {Fp : Nat → Int → Prop} {l : List (Nat × Int)} {D w : List Int} {Y : Nat → List Int} {as : Option zK} {T : zT} {M : zM}
theorem scq.rf (σ : jS) : scq σ σ := ⟨rfl, rfl⟩
theorem scq.tr (h : scq σ σ1) (h' : scq σ1 σ2) : scq σ σ2 := ⟨h'.1.trans h.1, h'.2.trans h.2⟩
theorem gq.scr (g : gq Fp σ σ1) (h : ¬ Fp 800000 0) : scq σ σ1 := ⟨funext (g 800000 0 (by decide) h).2.1, (g 800000 0 (by decide) h).2.2⟩
theorem gq.k1 (g : gq Fp σ σ1) (h : ∀ F : Nat, 1000 ≤ F → F < 2000 → ¬ Fp F 0) : k1q σ σ1 := fun F h1 h2 => g F 0 (by omega) (h F h1 h2)
theorem cq_g (e : cq l σ σ1) : gq (fun F o => (F, o) ∈ l) σ σ1 := e.1
theorem sq_g (e : sq l σ σ1) : gq (fun F o => (F, o) ∈ l) σ σ1 := fun F o _ q => ⟨(e.1 F o q).1, (e.1 F o q).2, e.2.1 F o⟩
theorem nil_k1 (h : (l.all (fun p => decide (p.1 < 1000 ∨ 2000 ≤ p.1))) = true) : ∀ F : Nat, 1000 ≤ F → F < 2000 → ¬ (fun F o => (F, o) ∈ l) F (0 : Int) := fun F h1 h2 w => by
  have := of_decide_eq_true (List.all_eq_true.mp h _ w)
  dsimp only at this
  omega
/-! the class's pieces under what leaves them -/
theorem cTp.g (h : cTp σ D) (g : gq Fp σ σ1) (h0 : ∀ p, p ∈ ([(8000, 0), (8002, 0)] : List (Nat × Int)) → ¬ Fp p.1 p.2) : cTp σ1 D := by
  obtain ⟨a1, a2, a3, a4⟩ := h
  have g1 := g 8000 0 (by decide) (h0 (8000, 0) (by decide))
  have g2 := g 8002 0 (by decide) (h0 (8002, 0) (by decide))
  exact ⟨g1.1.trans a1, a2, fun i hi => (g2.2.1 _).trans (a3 i hi), a4⟩
theorem cX2.g (h : cX2 σ) (g : gq Fp σ σ1) (h0 : ∀ p, p ∈ ([(10008, 0), (10008, 1), (12005, 0), (12006, 0)] : List (Nat × Int)) → ¬ Fp p.1 p.2) : cX2 σ1 := by
  refine ⟨fun tx htx j j0 j1 => ?_, ?_⟩
  · have : ra σ1 10008 tx j = ra σ 10008 tx j := by
      rcases htx with w | w
      · rw [w]; exact (g 10008 0 (by decide) (h0 (10008, 0) (by decide))).2.1 j
      · rw [w]; exact (g 10008 1 (by decide) (h0 (10008, 1) (by decide))).2.1 j
    rw [this]
    exact h.1 tx htx j j0 j1
  · rw [(g 12006 0 (by decide) (h0 (12006, 0) (by decide))).1, (g 12005 0 (by decide) (h0 (12005, 0) (by decide))).1]
    exact h.2
theorem fT.g {o : Int} {r : List Int} (h : fT σ o r) (g : gq Fp σ σ1) (h0 : ¬ Fp 0 o) (h1 : ¬ Fp 1 o) : fT σ1 o r := by
  obtain ⟨a1, a2, a3, a4⟩ := h
  have g0 := g 0 o (by decide) h0
  have g1 := g 1 o (by decide) h1
  exact ⟨a1, g1.1.trans a2, by rw [g0.2.2]; exact a3, fun i hi => (g0.2.1 _).trans (a4 i hi)⟩
def ypL : List (Nat × Int) := [(12001, 0), (0, 247), (1, 247), (0, 248), (1, 248), (0, 249), (1, 249), (0, 250), (1, 250)]
theorem pYc.g (h : pYc σ Y) (g : gq Fp σ σ1) (h0 : ∀ p, p ∈ ypL → ¬ Fp p.1 p.2) : pYc σ1 Y := fun i hi => by
  obtain ⟨a1, a2, a3⟩ := h i hi
  refine ⟨a1, ((g 12001 0 (by decide) (h0 (12001, 0) (by decide))).2.1 _).trans a2, a3.g g ?_ ?_⟩
  · have : i = 0 ∨ i = 1 ∨ i = 2 ∨ i = 3 := by omega
    rcases this with w | w | w | w <;> rw [w]
    · exact h0 (0, 247) (by decide)
    · exact h0 (0, 248) (by decide)
    · exact h0 (0, 249) (by decide)
    · exact h0 (0, 250) (by decide)
  · have : i = 0 ∨ i = 1 ∨ i = 2 ∨ i = 3 := by omega
    rcases this with w | w | w | w <;> rw [w]
    · exact h0 (1, 247) (by decide)
    · exact h0 (1, 248) (by decide)
    · exact h0 (1, 249) (by decide)
    · exact h0 (1, 250) (by decide)
theorem cW.g (h : cW σ w) (g : gq Fp σ σ1) (h0 : ∀ p, p ∈ wcF → ¬ Fp p.1 p.2) : cW σ1 w := ⟨(g 11000 0 (by decide) (h0 (11000, 0) (by decide))).1.trans h.1, fun i hi => ((g 11001 0 (by decide) (h0 (11001, 0) (by decide))).2.1 _).trans (h.2 i hi)⟩
theorem cTr.g {W : List zN} (h : cTr σ W) (g : gq Fp σ σ1) (h0 : ∀ p, p ∈ ([(6000, 2), (6001, 2), (3001, 1), (3002, 1)] : List (Nat × Int)) → ¬ Fp p.1 p.2) : cTr σ1 W := by
  obtain ⟨h1, h2, h3⟩ := h
  have g1 := g 6000 2 (by decide) (h0 (6000, 2) (by decide))
  have g2 := g 6001 2 (by decide) (h0 (6001, 2) (by decide))
  have g3 := g 3001 1 (by decide) (h0 (3001, 1) (by decide))
  have g4 := g 3002 1 (by decide) (h0 (3002, 1) (by decide))
  refine ⟨g1.1.trans h1, treeW_cong (funext g2.2.1) (funext g3.2.1) g4.1 h2, ?_⟩
  unfold fok
  rw [g1.1, g2.2.2, g3.2.2, g4.1]
  exact h3
theorem cAs.g (h : cAs σ as) (g : gq Fp σ σ1) (h0 : ∀ p, p ∈ apL → ¬ Fp p.1 p.2) : cAs σ1 as := by
  rcases as with _ | ⟨e, s, W, a, b, c, r, k⟩
  · obtain ⟨h1, h2⟩ := h
    refine ⟨((g 12011 0 (by decide) (h0 (12011, 0) (by decide))).2.1 _).trans h1, h2.g g (fun p hp => h0 p ?_)⟩
    have : ∀ p, p ∈ ([(6000, 2), (6001, 2), (3001, 1), (3002, 1)] : List (Nat × Int)) → p ∈ apL := by decide
    exact this p hp
  · exact aPc_gq h g h0
/-- all but what THE TEXT and the search hold -/
def ciL : List (Nat × Int) := [(10008, 0), (10008, 1), (12005, 0), (12006, 0), (8000, 0), (8002, 0), (12008, 0), (12009, 0), (12010, 0)] ++ ypL ++ wcF ++ apL
theorem cI.g (h : cI σ A) (g : gq Fp σ σ1) (hZ : cZ σ1 (aT A) (aM A)) (h0 : ∀ p, p ∈ ciL → ¬ Fp p.1 p.2) : cI σ1 A := by
  obtain ⟨z1, z2, z3, ⟨z4, z5, z6⟩, z7, z8, z9⟩ := h
  have i1 : ∀ p, p ∈ ([(10008, 0), (10008, 1), (12005, 0), (12006, 0)] : List (Nat × Int)) → p ∈ ciL := by decide
  have i2 : ∀ p, p ∈ ([(8000, 0), (8002, 0)] : List (Nat × Int)) → p ∈ ciL := by decide
  have i3 : ∀ p, p ∈ ypL → p ∈ ciL := by decide
  have i4 : ∀ p, p ∈ wcF → p ∈ ciL := by decide
  have i5 : ∀ p, p ∈ apL → p ∈ ciL := by decide
  exact ⟨hZ, z2.g g (fun p hp => h0 p (i1 p hp)), z3.g g (fun p hp => h0 p (i2 p hp)), ⟨(g 12008 0 (by decide) (h0 (12008, 0) (by decide))).1.trans z4, (g 12009 0 (by decide) (h0 (12009, 0) (by decide))).1.trans z5, (g 12010 0 (by decide) (h0 (12010, 0) (by decide))).1.trans z6⟩, z7.g g (fun p hp => h0 p (i3 p hp)), z8.g g (fun p hp => h0 p (i4 p hp)), z9.g g (fun p hp => h0 p (i5 p hp))⟩
/-- what the reference does leaves the class -/
theorem cI.r1 (h : cI σ A) (e : sq l σ σ1) (hl : r1l l = true) : cI σ1 A := by
  refine h.g (sq_g e) (h.1.r1 e hl) (fun p hp w => ?_)
  have h1 : ∀ p, p ∈ ciL → p.1 < 1000 ∨ 2000 ≤ p.1 := by decide
  have := of_decide_eq_true (List.all_eq_true.mp hl _ w)
  have := h1 p hp
  dsimp only at *
  omega
theorem r1_scr (e : sq l σ σ1) (hl : r1l l = true) : scq σ σ1 := (sq_g e).scr (fun w => by
  have := of_decide_eq_true (List.all_eq_true.mp hl _ w)
  dsimp only at this
  omega)
/-! the reference's pieces -/
theorem mW.k1 (h : mW σ w) (e : k1q σ σ1) : mW σ1 w := by
  unfold mW
  rw [e.s 1133 (by decide), e.af 1132 (by decide)]
  exact h
theorem pYm.k1 (h : pYm σ Y) (e : k1q σ σ1) : pYm σ1 Y := fun i hi => by
  obtain ⟨a1, a2, a3, a4, a5⟩ := h i hi
  refine ⟨a1, ?_, a3, ?_, fun j hj => ?_⟩
  · rw [e.af 1047 (by decide)]; exact a2
  · rw [(e 1046 (by decide) (by decide)).2.2]; exact a4
  · rw [e.af 1046 (by decide)]; exact a5 j hj
theorem mAn_k1 {c : List Int} (h : mAn σ c) (e : k1q σ σ1) : mAn σ1 c := by
  unfold mAn
  rw [e.s 1127 (by decide), e.af 1125 (by decide)]
  exact h
theorem mTr_k1 {W : List zN} (h : mTr σ W) (e : k1q σ σ1) : mTr σ1 W := by
  unfold mTr nodeR
  rw [e.s 1126 (by decide), e.af 1114 (by decide), e.af 1115 (by decide), e.af 1116 (by decide), e.af 1117 (by decide), e.af 1118 (by decide), e.af 1119 (by decide), e.af 1120 (by decide), e.af 1121 (by decide), e.af 1122 (by decide), e.af 1123 (by decide), e.af 1124 (by decide)]
  exact h
theorem mAs.k1 (h : mAs σ as) (e : k1q σ σ1) : mAs σ1 as := by
  rcases as with _ | ⟨ee, s, W, a, b, c, r, k⟩
  · exact (e.s 1051 (by decide)).trans h
  · obtain ⟨h1, h2, h3, h4, h5, h6, h7, h8, h9⟩ := h
    refine ⟨(e.s 1051 (by decide)).trans h1, fun i hi => by rw [e.af 1112 (by decide)]; exact h2 i hi, mTr_k1 h3 e, fun w => mAn_k1 (h4 w) e, fun w => ?_, fun w1 w2 => by rw [e.s 1127 (by decide)]; exact h6 w1 w2, by rw [e.s 1049 (by decide)]; exact h7, fun i hi => by rw [e.af 1048 (by decide)]; exact h8 i hi, by rw [e.s 1050 (by decide)]; exact h9⟩
    obtain ⟨q1, q2, q3⟩ := h5 w
    exact ⟨(e.s 1128 (by decide)).trans q1, (e.s 1129 (by decide)).trans q2, mAn_k1 q3 e⟩
theorem mI.k1 (h : mI σ A) (e : k1q σ σ1) : mI σ1 A := by
  obtain ⟨z1, z2, z3, z4, ⟨z5, z6, z7⟩, z8, z9, z10⟩ := h
  exact ⟨z1.k1 e, z2.k1 e, z3.k1 e, z4.k1 e, ⟨(e.s 1003 (by decide)).trans z5, (e.s 1015 (by decide)).trans z6, (e.s 1016 (by decide)).trans z7⟩, z8.k1 e, z9.k1 e, z10.k1 e⟩
theorem pYm.sq (h : pYm σ Y) (e : sq l σ σ1) (h1 : l.contains (1046, 0) = false) (h2 : l.contains (1047, 0) = false) : pYm σ1 Y := fun i hi => by
  obtain ⟨a1, a2, a3, a4, a5⟩ := h i hi
  refine ⟨a1, ?_, a3, ?_, fun j hj => ?_⟩
  · rw [e.nraf 1047 0 h2]; exact a2
  · rw [e.nrl 1046 0]; exact a4
  · rw [e.nraf 1046 0 h1]; exact a5 j hj
def maL : List (Nat × Int) := [(1051, 0), (1112, 0), (1114, 0), (1115, 0), (1116, 0), (1117, 0), (1118, 0), (1119, 0), (1120, 0), (1121, 0), (1122, 0), (1123, 0), (1124, 0), (1126, 0), (1125, 0), (1127, 0), (1128, 0), (1129, 0), (1048, 0), (1049, 0), (1050, 0)]
theorem mAs.sq (h : mAs σ as) (e : sq l σ σ1) (hl : (maL.all (fun p => !l.contains p)) = true) : mAs σ1 as := by
  rcases as with _ | ⟨ee, s, W, a, b, c, r, k⟩
  · have h1 : l.contains (1051, 0) = false := by
      have := List.all_eq_true.mp hl (1051, 0) (by decide)
      simpa using this
    exact (e.nrs 1051 0 h1).trans h
  · exact aPm_sq h e hl
def mxL : List (Nat × Int) := [(1008, 0), (1009, 0), (1010, 0), (1011, 0), (1012, 0), (1013, 0), (1014, 0), (1026, 0)]
def mmL : List (Nat × Int) := [(1052, 0), (1053, 0), (1054, 0), (1055, 0), (1056, 0), (1057, 0), (1058, 0), (1059, 0), (1060, 0), (1061, 0), (1062, 0), (1063, 0), (1065, 0), (1066, 0), (1067, 0), (1068, 0), (1069, 0), (1070, 0)]
def miL : List (Nat × Int) := [(1000, 0), (1001, 0), (1003, 0), (1015, 0), (1016, 0), (1046, 0), (1047, 0), (1132, 0), (1133, 0)] ++ mxL ++ mmL ++ maL
theorem mI.sq (h : mI σ A) (e : sq l σ σ1) (hl : (miL.all (fun p => !l.contains p)) = true) : mI σ1 A := by
  obtain ⟨z1, z2, z3, z4, ⟨z5, z6, z7⟩, z8, z9, z10⟩ := h
  have hm : ∀ p, p ∈ miL → l.contains p = false := fun p hp => by
    have := List.all_eq_true.mp hl p hp
    simpa using this
  have sub : ∀ l' : List (Nat × Int), (∀ p, p ∈ l' → p ∈ miL) → (l'.all (fun p => !l.contains p)) = true := fun l' hs => List.all_eq_true.mpr (fun p hp => by rw [hm p (hs p hp)]; rfl)
  exact ⟨z1.sq e, z2.sq e (sub mxL (by decide)), z3.sq e (sub mmL (by decide)), z4.sq e (by rw [hm _ (by decide), hm _ (by decide)]; rfl), ⟨(e.nrs 1003 0 (hm _ (by decide))).trans z5, (e.nrs 1015 0 (hm _ (by decide))).trans z6, (e.nrs 1016 0 (hm _ (by decide))).trans z7⟩, z8.sq e (hm _ (by decide)) (hm _ (by decide)), z9.sq e (by rw [hm _ (by decide), hm _ (by decide)]; rfl), z10.sq e (sub maL (by decide))⟩
/-- nothing of what is held has changed -/
theorem bOK.keep {r : Int} {l' : List (Nat × Int)} (hc : cI σ A) (hm : mI σ A) (hp : pI A) (g : gq Fp σ σ1) (hZ : cZ σ1 (aT A) (aM A)) (h0 : ∀ p, p ∈ ciL → ¬ Fp p.1 p.2) (hk : ∀ F : Nat, 1000 ≤ F → F < 2000 → ¬ Fp F 0) (h8 : ¬ Fp 800000 0) (e : sq l' σ1 σ2) (hr : r1l l' = true) (hl : (miL.all (fun p => !l'.contains p)) = true) : bOK σ r r σ2 :=
  ⟨rfl, (g.scr h8).tr (r1_scr e hr), A, (hc.g g hZ h0).r1 e hr, (hm.k1 (g.k1 hk)).sq e hl, hp⟩
theorem bOK.same {r : Int} (hc : cI σ A) (hm : mI σ A) (hp : pI A) : bOK σ r r σ := ⟨rfl, scq.rf σ, A, hc, hm, hp⟩
end ZAb
