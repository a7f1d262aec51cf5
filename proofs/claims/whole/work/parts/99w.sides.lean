/-! What the class does leaves the reference as it is, and the other way round. -/
def k1q (σ σ' : jS) : Prop := ∀ F : Nat, 1000 ≤ F → F < 2000 → rs σ' F 0 = rs σ F 0 ∧ (∀ i, ra σ' F 0 i = ra σ F 0 i) ∧ rl σ' F 0 = rl σ F 0
section ZSd
variable {n : Nat} {σ0 σ σ1 σ2 : jS} {D : List Int} {T : zT} {M : zM} {W W' : Nat → Int → Bool} {tx : Int}
theorem k1q.rf (σ : jS) : k1q σ σ := fun _ _ _ => ⟨rfl, fun _ => rfl, rfl⟩
theorem k1q.tr (h : k1q σ σ1) (h' : k1q σ1 σ2) : k1q σ σ2 := fun F h1 h2 => ⟨(h' F h1 h2).1.trans (h F h1 h2).1, fun i => ((h' F h1 h2).2.1 i).trans ((h F h1 h2).2.1 i), (h' F h1 h2).2.2.trans (h F h1 h2).2.2⟩
theorem fq.k1 (e : fq W σ σ1) (h : ∀ F : Nat, 1000 ≤ F → F < 2000 → W F 0 = false) : k1q σ σ1 := fun F h1 h2 => e.1 F 0 (by omega) (show ¬ W F 0 = true by rw [h F h1 h2]; decide)
theorem rq.k1 (e : rq σ σ1) : k1q σ σ1 := fun F h1 h2 => e.1 F 0 (by omega) (by unfold rFp askFp; omega)
theorem sq.k1 {l : List (Nat × Int)} (e : sq l σ σ1) (h : (l.all (fun p => decide (p.1 < 1000 ∨ 2000 ≤ p.1))) = true) : k1q σ σ1 := fun F h1 h2 => by
  have := e.1 F 0 (fun w => by
    have := of_decide_eq_true (List.all_eq_true.mp h _ w)
    dsimp only at this
    omega)
  exact ⟨this.1, this.2, e.2.1 F 0⟩
theorem k1q.s (h : k1q σ σ1) (F : Nat) (hF : (decide (1000 ≤ F ∧ F < 2000)) = true) : Jvm.Pilot.CGivenSearchLaw_law_r1920_7b7b70.rs σ1 F 0 = Jvm.Pilot.CGivenSearchLaw_law_r1920_7b7b70.rs σ F 0 := (h F (of_decide_eq_true hF).1 (of_decide_eq_true hF).2).1
theorem k1q.a (h : k1q σ σ1) (F : Nat) (i : Int) (hF : (decide (1000 ≤ F ∧ F < 2000)) = true) : Jvm.Pilot.CGivenSearchLaw_law_r1920_7b7b70.ra σ1 F 0 i = Jvm.Pilot.CGivenSearchLaw_law_r1920_7b7b70.ra σ F 0 i := (h F (of_decide_eq_true hF).1 (of_decide_eq_true hF).2).2.1 i
theorem k1q.af (h : k1q σ σ1) (F : Nat) (hF : (decide (1000 ≤ F ∧ F < 2000)) = true) : Jvm.Pilot.CGivenSearchLaw_law_r1920_7b7b70.ra σ1 F 0 = Jvm.Pilot.CGivenSearchLaw_law_r1920_7b7b70.ra σ F 0 := funext fun i => h.a F i hF
theorem mln.k1 (h : mln σ) (e : k1q σ σ1) : mln σ1 := fun p hp => by
  have : ∀ p, p ∈ mlT → 1000 ≤ p.1 ∧ p.1 < 2000 := by decide
  rw [(e p.1 (this p hp).1 (this p hp).2).2.2]
  exact h p hp
theorem mTp.k1 (h : mTp σ D) (e : k1q σ σ1) : mTp σ1 D := by
  unfold mTp
  rw [e.s 1001 (by decide), e.af 1000 (by decide)]
  exact h
theorem mTx.k1 (h : mTx σ T) (e : k1q σ σ1) : mTx σ1 T := by
  unfold mTx
  rw [e.s 1013 (by decide), e.s 1014 (by decide), e.af 1008 (by decide), e.af 1009 (by decide), e.af 1010 (by decide), e.af 1011 (by decide), e.af 1012 (by decide), e.af 1026 (by decide)]
  exact h
theorem mMem_cg (h : mMem σ M) (e : ndK 8200 σ σ1) (h63 : rs σ1 1063 0 = rs σ 1063 0) (h65 : rs σ1 1065 0 = rs σ 1065 0) (h70 : rs σ1 1070 0 = rs σ 1070 0) : mMem σ1 M := by
  have e0 := e
  obtain ⟨a1, a2, a3, a4, a5, a6, a7⟩ := e
  obtain ⟨m1, m2, m3, m4, m5, m6, m7⟩ := h
  unfold mMem
  rw [h63, h65, h70]
  refine ⟨m1, m2, fun j hj => ?_, m4, m5, m6, fun m q0 q1 => ?_⟩
  · obtain ⟨c1, c2, c3, c4, c5, c6⟩ := m3 j hj
    obtain ⟨d1, d2, d3, d4⟩ := a7 ((j : Nat) : Int) (by omega)
    refine ⟨by rw [d1]; exact c1, by rw [d2]; exact c2, c3, fun p hp => by rw [d4 _ (by omega)]; exact c4 p hp, c5, ?_⟩
    rw [d3]
    by_cases q : (M[j]).2.2 = []
    · rw [if_pos q] at c6 ⊢; exact c6
    · rw [if_neg q] at c6 ⊢; exact nRs_K e0 c6
  · rw [h63] at q1 ⊢
    have k := m7 m q0 q1
    have e57 := a4 1057 (by decide) m (Or.inl q1)
    rw [e57]
    refine ⟨k.1, fun j j0 j1 => ?_⟩
    rw [a5 m j (Or.inl q1) j0 (by omega)]
    exact k.2 j j0 j1
theorem k1q.nd (e : k1q σ σ1) : ndK 8200 σ σ1 := by
  have hn : ∀ F, F ∈ ndc → decide (1000 ≤ F ∧ F < 2000) = true := by decide
  exact ⟨by rw [e.s 1063 (by decide)]; exact Int.le_refl _, by rw [e.s 1065 (by decide)]; exact Int.le_refl _, by rw [e.s 1070 (by decide)]; exact Int.le_refl _, fun F hF n _ => e.a F n (hn F hF), fun n k _ _ _ => e.a 1058 _ (by decide), fun i _ => e.a 1062 i (by decide), fun j _ => ⟨e.a 1066 j (by decide), e.a 1067 j (by decide), e.a 1069 j (by decide), fun p _ => e.a 1068 _ (by decide)⟩⟩
theorem mMem.k1 (h : mMem σ M) (e : k1q σ σ1) : mMem σ1 M := mMem_cg h e.nd (e.s 1063 (by decide)) (e.s 1065 (by decide)) (e.s 1070 (by decide))
theorem mMem.sq {l : List (Nat × Int)} (h : mMem σ M) (e : sq l σ σ1) (hl : (([(1052, 0), (1053, 0), (1054, 0), (1055, 0), (1056, 0), (1057, 0), (1058, 0), (1059, 0), (1060, 0), (1061, 0), (1062, 0), (1063, 0), (1065, 0), (1066, 0), (1067, 0), (1068, 0), (1069, 0), (1070, 0)] : List (Nat × Int)).all (fun p => !l.contains p)) = true) : mMem σ1 M := by
  have hm : ∀ p, p ∈ ([(1063, 0), (1065, 0), (1070, 0)] : List (Nat × Int)) → l.contains p = false := fun p hp => by
    have h0 : ∀ p, p ∈ ([(1063, 0), (1065, 0), (1070, 0)] : List (Nat × Int)) → p ∈ ([(1052, 0), (1053, 0), (1054, 0), (1055, 0), (1056, 0), (1057, 0), (1058, 0), (1059, 0), (1060, 0), (1061, 0), (1062, 0), (1063, 0), (1065, 0), (1066, 0), (1067, 0), (1068, 0), (1069, 0), (1070, 0)] : List (Nat × Int)) := by decide
    have := List.all_eq_true.mp hl p (h0 p hp)
    simpa using this
  exact mMem_cg h (e.ndK hl) (e.nrs 1063 0 (hm _ (by decide))) (e.nrs 1065 0 (hm _ (by decide))) (e.nrs 1070 0 (hm _ (by decide)))
/-- what the reference alone changes -/
def r1l (l : List (Nat × Int)) : Bool := l.all (fun p => decide (1000 ≤ p.1 ∧ p.1 < 2000))
theorem r1l_at {l : List (Nat × Int)} (hl : r1l l = true) {F : Nat} {o : Int} (hF : F < 1000 ∨ 2000 ≤ F) : l.contains (F, o) = false := by
  cases h : l.contains (F, o) with
  | false => rfl
  | true =>
    have := of_decide_eq_true (List.all_eq_true.mp hl _ (List.contains_iff_mem.mp h))
    dsimp only at this
    omega
theorem sq_r1 {l : List (Nat × Int)} (e : sq l σ σ1) : fq (fun F o => l.contains (F, o)) σ σ1 := e.fq (List.all_eq_true.mpr (fun p hp => List.contains_iff_mem.mpr hp))
theorem cZ.r1 {l : List (Nat × Int)} (h : cZ σ T M) (e : sq l σ σ1) (hl : r1l l = true) : cZ σ1 T M := by
  refine h.fq (sq_r1 e) (List.all_eq_true.mpr (fun p hp => ?_)) (fun o _ => ⟨r1l_at hl (by omega), r1l_at hl (by omega)⟩)
  have : ∀ p, p ∈ (mrL ++ cTxF ++ (9004, 0) :: ccT.map (fun p => p.1)) → p.1 < 1000 ∨ 2000 ≤ p.1 := by decide
  rw [r1l_at hl (this p hp)]
  rfl
theorem cX2.r1 {l : List (Nat × Int)} (h : cX2 σ) (e : sq l σ σ1) (hl : r1l l = true) : cX2 σ1 := by
  refine h.fq (sq_r1 e) (List.all_eq_true.mpr (fun p hp => ?_))
  have : ∀ p, p ∈ ([(10008, 0), (10008, 1), (12005, 0), (12006, 0)] : List (Nat × Int)) → p.1 < 1000 ∨ 2000 ≤ p.1 := by decide
  rw [r1l_at hl (this p hp)]
  rfl
theorem cTp.r1 {l : List (Nat × Int)} (h : cTp σ D) (e : sq l σ σ1) (hl : r1l l = true) : cTp σ1 D := h.fq (sq_r1 e) (r1l_at hl (by omega)) (r1l_at hl (by omega))
theorem fT_r1 {l : List (Nat × Int)} {o : Int} {r : List Int} (h : fT σ o r) (e : sq l σ σ1) (hl : r1l l = true) : fT σ1 o r := h.fq (sq_r1 e) (r1l_at hl (by omega)) (r1l_at hl (by omega))
end ZSd
