/-! What a call may change, told by a set of fields. -/
def fq (W : Nat → Int → Bool) (σ σ' : jS) : Prop := gq (fun F o => W F o = true) σ σ' ∧ sl σ σ'
def mrL : List (Nat × Int) := [(5000, 0), (5001, 0), (5002, 0), (5004, 0), (5005, 0), (6000, 0), (6001, 0), (3001, 0), (3002, 0), (2000, 0)]
section ZFq
variable {n : Nat} {σ0 σ σ1 σ2 : jS} {D : List Int} {T : zT} {M : zM} {W W' : Nat → Int → Bool} {tx : Int}
theorem fq.rf (W : Nat → Int → Bool) (σ : jS) : fq W σ σ := ⟨fun _ _ _ _ => ⟨rfl, fun _ => rfl, rfl⟩, sl.rf σ⟩
theorem fq.tr (h : fq W σ σ1) (h' : fq W σ1 σ2) : fq W σ σ2 := ⟨fun F o q q2 => ⟨(h'.1 F o q q2).1.trans (h.1 F o q q2).1, fun i => ((h'.1 F o q q2).2.1 i).trans ((h.1 F o q q2).2.1 i), (h'.1 F o q q2).2.2.trans (h.1 F o q q2).2.2⟩, h.2.tr h'.2⟩
theorem sq.fq {l : List (Nat × Int)} (e : sq l σ σ1) (hl : l.all (fun p => W p.1 p.2) = true) : fq W σ σ1 := ⟨fun F o _ q2 => by
  have := e.1 F o (fun w => q2 (List.all_eq_true.mp hl _ w))
  exact ⟨this.1, this.2, e.2.1 F o⟩, e.2⟩
theorem tqq.fq (e : tqq tx σ σ1) (hl : ∀ F o, tFp tx F o → W F o = true) : fq W σ σ1 := ⟨fun F o _ q2 => by
  have := e.1 F o (fun w => q2 (hl _ _ w))
  exact ⟨this.1, this.2, e.2.1 F o⟩, e.2⟩
theorem fq.s (h : fq W σ σ1) (F : Nat) (o : Int) (hF : F < 900000) (hW : W F o = false) : Jvm.Pilot.CGivenSearchLaw_law_r1920_7b7b70.rs σ1 F o = Jvm.Pilot.CGivenSearchLaw_law_r1920_7b7b70.rs σ F o := (h.1 F o hF (show ¬ W F o = true by rw [hW]; decide)).1
theorem fq.a (h : fq W σ σ1) (F : Nat) (o i : Int) (hF : F < 900000) (hW : W F o = false) : Jvm.Pilot.CGivenSearchLaw_law_r1920_7b7b70.ra σ1 F o i = Jvm.Pilot.CGivenSearchLaw_law_r1920_7b7b70.ra σ F o i := (h.1 F o hF (show ¬ W F o = true by rw [hW]; decide)).2.1 i
theorem fq.af (h : fq W σ σ1) (F : Nat) (o : Int) (hF : F < 900000) (hW : W F o = false) : Jvm.Pilot.CGivenSearchLaw_law_r1920_7b7b70.ra σ1 F o = Jvm.Pilot.CGivenSearchLaw_law_r1920_7b7b70.ra σ F o := funext fun i => h.a F o i hF hW
theorem fq.l (h : fq W σ σ1) (F : Nat) (o : Int) : Jvm.Pilot.CGivenSearchLaw_law_r1920_7b7b70.rl σ1 F o = Jvm.Pilot.CGivenSearchLaw_law_r1920_7b7b70.rl σ F o := h.2.1 F o
theorem cln.fq (m : cln σ) (h : fq W σ σ1) : cln σ1 := fun p hp => (h.l _ _).trans (m p hp)
theorem fT.fq {o : Int} {r : List Int} (h : fT σ o r) (e : fq W σ σ1) (h0 : W 0 o = false) (h1 : W 1 o = false) : fT σ1 o r := by
  unfold fT
  rw [e.s 1 o (by decide) h1, e.af 0 o (by decide) h0, e.l 0 o]
  exact h
theorem cC.fq (h : cC σ) (e : fq W σ σ1) (hl : ccT.all (fun p => !W p.1.1 p.1.2) = true) : cC σ1 := by
  obtain ⟨h1, h2, h3⟩ := h
  refine ⟨fun p hp => ?_, fun p hp => (e.l _ _).trans (h2 p hp), fun j j0 j1 => (e.l _ _).trans (h3 j j0 j1)⟩
  have w2 : ∀ p, p ∈ ccT → p.1.1 < 900000 := by decide
  rw [e.s _ _ (w2 p hp) (by
    have := List.all_eq_true.mp hl p hp
    simpa using this)]
  exact h1 p hp
theorem cTx.fq (h : cTx σ T) (e : fq W σ σ1) (hl : cTxF.all (fun p => !W p.1 p.2) = true) (hf : ∀ o, 2 ≤ o → o < 242 → W 0 o = false ∧ W 1 o = false) : cTx σ1 T :=
  h.gq e.1 (fun p hp => by
    have := List.all_eq_true.mp hl p hp
    simpa using this) (fun o o0 o1 => ⟨by rw [(hf o o0 o1).1]; decide, by rw [(hf o o0 o1).2]; decide⟩)
theorem memR.fq (h : memR σ M) (e : fq W σ σ1) (hl : mrL.all (fun p => !W p.1 p.2) = true) (hf : ∀ o : Int, 251 ≤ o → W 0 o = false ∧ W 1 o = false) : memR σ1 M := by
  have hm : ∀ p, p ∈ mrL → W p.1 p.2 = false := fun p hp => by
    have := List.all_eq_true.mp hl p hp
    simpa using this
  obtain ⟨h1, h2, h3, h4, h5, h6, h7, h8, h9, h10, h11⟩ := h
  have a61 := e.af 6001 0 (by decide) (hm (6001, 0) (by decide))
  have a31 := e.af 3001 0 (by decide) (hm (3001, 0) (by decide))
  have a32 := e.s 3002 0 (by decide) (hm (3002, 0) (by decide))
  unfold memR
  rw [e.s 5000 0 (by decide) (hm (5000, 0) (by decide)), e.af 5004 0 (by decide) (hm (5004, 0) (by decide)), e.af 5001 0 (by decide) (hm (5001, 0) (by decide)), e.af 5002 0 (by decide) (hm (5002, 0) (by decide)), e.af 5005 0 (by decide) (hm (5005, 0) (by decide)), e.2.2.1 0, e.s 6000 0 (by decide) (hm (6000, 0) (by decide)), e.l 6001 0, a32, e.l 3001 0]
  refine ⟨h1, h2, fun j hj => ?_, h4, fun j j0 j1 j2 => ?_, h6, h7, h8, h9, h10, h11.1, h11.2.1, rkK_cg h11.2.2 (e.2.2.1 0) (e.af 5005 0 (by decide) (hm (5005, 0) (by decide))) (e.af 2000 0 (by decide) (hm (2000, 0) (by decide))) (fun o _ => e.l 0 o)⟩
  · obtain ⟨c1, c2, c3, c4, c5, c6, c7, c8, c9, c10⟩ := h3 j hj
    obtain ⟨q1, q2⟩ := hf _ c4
    exact ⟨c1, c2, c3, c4, c5, c6.fq e q1 q2, c7, c8, c9, treeW_cong a61 a31 a32 c10.1, c10.2⟩
  · obtain ⟨c1, c2, c3⟩ := h5 j j0 j1 j2
    rw [e.l 0]
    exact ⟨c1, c2, c3⟩
/-- nothing is remembered any more -/
theorem memR_nil (h : memR σ M) (e : fq W σ σ1) (hl : ([(5005, 0), (2000, 0)] : List (Nat × Int)).all (fun p => !W p.1 p.2) = true) (h1 : rs σ1 5000 0 = 0) (h2 : rs σ1 6000 0 = 0) (h3 : rs σ1 3002 0 = 0) : memR σ1 [] := by
  have hm : ∀ p, p ∈ ([(5005, 0), (2000, 0)] : List (Nat × Int)) → W p.1 p.2 = false := fun p hp => by
    have := List.all_eq_true.mp hl p hp
    simpa using this
  obtain ⟨-, -, -, h4, h5, -, h7, h8, -, -, h10, h11, h12⟩ := h
  unfold memR
  rw [e.af 5005 0 (by decide) (hm (5005, 0) (by decide)), e.2.2.1 0, e.l 6001 0, e.l 3001 0, h1, h2, h3]
  refine ⟨rfl, by show 0 ≤ 40; omega, fun j hj => absurd hj (by simp), h4, fun j j0 j1 j2 => ?_, rfl, ?_, h8, by omega, by omega, by omega, h11, rkK_cg h12 (e.2.2.1 0) (e.af 5005 0 (by decide) (hm (5005, 0) (by decide))) (e.af 2000 0 (by decide) (hm (2000, 0) (by decide))) (fun o _ => e.l 0 o)⟩
  · rw [e.l 0]
    exact h5 j j0 j1 j2
  · rcases h8 with w | w | w | w | w | w | w | w | w | w <;> rw [w] <;> omega
theorem mk0.fq (h : mk0 σ) (e : fq W σ σ1) (h4 : W 9004 0 = false) : mk0 σ1 := fun i i0 i1 => by
  rw [e.a 9004 0 i (by decide) h4]
  rw [e.l 9004 0] at i1
  exact h i i0 i1
theorem lens_fq (e : fq W σ σ1) : lens σ1 = lens σ := by
  unfold lens
  simp only [e.l]
theorem jnG.fq (h : jnG σ) (e : fq W σ σ1) : jnG σ1 := jnG_l h (fun h t => by rw [e.l]; exact h t) (e.l _ _) (e.l _ _) (by rw [lens_fq e, e.2.2.1, e.2.2.2.1]; exact Int.le_refl _) (by rw [lens_fq e, e.2.2.1, e.2.2.2.2]; exact Int.le_refl _)
theorem cTp.fq (h : cTp σ D) (e : fq W σ σ1) (h0 : W 8000 0 = false) (h2 : W 8002 0 = false) : cTp σ1 D := by
  obtain ⟨a1, a2, a3, a4⟩ := h
  exact ⟨by rw [e.s 8000 0 (by decide) h0]; exact a1, a2, fun i hi => by rw [e.a 8002 0 _ (by decide) h2]; exact a3 i hi, a4⟩
/-- the class between two askings, under what changes nothing of it -/
theorem cZ.fq (h : cZ σ T M) (e : fq W σ σ1) (hl : (mrL ++ cTxF ++ (9004, 0) :: ccT.map (fun p => p.1)).all (fun p => !W p.1 p.2) = true) (hf : ∀ o : Int, (2 ≤ o ∧ o < 242) ∨ 251 ≤ o → W 0 o = false ∧ W 1 o = false) : cZ σ1 T M := by
  obtain ⟨z1, z2, z3, z4, z5, z6, z7⟩ := h
  have hall : ∀ p, p ∈ (mrL ++ cTxF ++ (9004, 0) :: ccT.map (fun p => p.1)) → (!W p.1 p.2) = true := fun p hp => List.all_eq_true.mp hl p hp
  have h4 : W 9004 0 = false := by
    have := hall (9004, 0) (List.mem_append_right _ List.mem_cons_self)
    simpa using this
  refine ⟨z1.fq e, z2.fq e (List.all_eq_true.mpr (fun p hp => hall p.1 (List.mem_append_right _ (List.mem_cons_of_mem _ (List.mem_map_of_mem hp))))), z3.fq e (List.all_eq_true.mpr (fun p hp => hall p (List.mem_append_left _ (List.mem_append_right _ hp)))) (fun o o0 o1 => hf o (Or.inl ⟨o0, o1⟩)), z4.fq e (List.all_eq_true.mpr (fun p hp => hall p (List.mem_append_left _ (List.mem_append_left _ hp)))) (fun o o0 => hf o (Or.inr o0)), ?_, z6.fq e h4, z7.fq e⟩
  rw [e.l 9003 0, e.l 9004 0, e.l 9005 0, e.l 9006 0, e.l 9007 0, e.l 6001 1]
  exact z5
end ZFq
