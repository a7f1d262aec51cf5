/-! How many values: what was counted is kept, the class. -/
/-- what is kept is right -/
def cvK (σ : jS) (T : zT) (may : Int) : Prop := (0 ≤ rs σ 2004 0 ∧ rs σ 2004 0 ≤ rs σ 2003 0 ∧ rs σ 2003 0 ≤ 128) ∧ ∀ i : Int, 0 ≤ i → i < rs σ 2003 0 → 0 ≤ ra σ 2000 0 i ∧ ∃ (rr : List Int) (dd : Nat), fT σ (ra σ 2000 0 i) rr ∧ rr.length ≤ 100 ∧ clr rr ∧ (∀ t, t ∈ rr → t < 104) ∧ ra σ 2001 0 i = ((dd : Nat) : Int) ∧ ra σ 2002 0 i = vl T may dd rr
def vFp (F : Nat) (x : Int) : Prop := F / 1000 = 9 ∨ F = 7012 ∨ (F / 1000 = 2 ∧ x = 0) ∨ ((F = 0 ∨ F = 1) ∧ 242 ≤ x ∧ x ≤ 244) ∨ (F / 1000 = 0 ∧ 251 ≤ x)
/-- but for one Flat and what is kept of counts -/
def kpq (o : Int) (σ σ1 : jS) : Prop := (∀ F x, F < 900000 → ¬ (F / 1000 = 2 ∧ x = 0) → ¬ (F / 1000 = 0 ∧ x = o) → rs σ1 F x = rs σ F x ∧ ra σ1 F x = ra σ F x ∧ rl σ1 F x = rl σ F x) ∧ (∀ F, F / 1000 = 2 → rl σ1 F 0 = rl σ F 0)
section ZVc
variable {n : Nat} {σ σ1 σ2 : jS} {g : zH} {N may o : Int} {β : List (Int × Int)} {T : zT} {M : zM} {r : List Int}
theorem kpq.tr (h : kpq o σ σ1) (h' : kpq o σ1 σ2) : kpq o σ σ2 := ⟨fun F x q1 q2 q3 => by
  obtain ⟨a1, a2, a3⟩ := h.1 F x q1 q2 q3
  obtain ⟨b1, b2, b3⟩ := h'.1 F x q1 q2 q3
  exact ⟨b1.trans a1, b2.trans a2, b3.trans a3⟩, fun F hF => (h'.2 F hF).trans (h.2 F hF)⟩
theorem sq.kpq {l : List (Nat × Int)} (h : sq l σ σ1) (hl : ∀ p, p ∈ l → (p.1 / 1000 = 2 ∧ p.2 = 0) ∨ (p.1 / 1000 = 0 ∧ p.2 = o)) : kpq o σ σ1 := ⟨fun F x _ q2 q3 => by
  have hx : ¬ (F, x) ∈ l := fun w => by
    rcases hl _ w with u | u
    · exact q2 u
    · exact q3 u
  have := h.1 F x hx
  exact ⟨this.1, funext this.2, h.2.1 F x⟩, fun F _ => h.2.1 F 0⟩
theorem kpq.cln (h : kpq o σ σ1) (hc : cln σ) : cln σ1 := fun p hp => by
  have h1 : ∀ p, p ∈ clT → p.1.1 < 900000 ∧ ¬ p.1.1 / 1000 = 0 ∧ (p.1.1 / 1000 = 2 → p.1.2 = 0) := by decide
  obtain ⟨c1, c2, c3⟩ := h1 p hp
  by_cases q : p.1.1 / 1000 = 2
  · rw [c3 q, h.2 _ q, ← c3 q]; exact hc p hp
  · rw [(h.1 p.1.1 p.1.2 c1 (fun w => q w.1) (fun w => c2 w.1)).2.2]; exact hc p hp
theorem kpq.cC (h : kpq o σ σ1) (ho : 251 ≤ o) (hc : cC σ) : cC σ1 := by
  obtain ⟨c1, c2, c3⟩ := hc
  have h1 : ∀ p, p ∈ ccT → p.1.1 < 900000 ∧ ¬ p.1.1 / 1000 = 0 ∧ ¬ p.1.1 / 1000 = 2 := by decide
  have h2 : ∀ p, p ∈ clfT → p.1 < 251 := by decide
  refine ⟨fun p hp => ?_, fun p hp => ?_, fun j j0 j1 => ?_⟩
  · obtain ⟨d1, d2, d3⟩ := h1 p hp
    rw [(h.1 _ _ d1 (fun w => d3 w.1) (fun w => d2 w.1)).1]; exact c1 p hp
  · have := h2 p hp
    rw [(h.1 0 p.1 (by decide) (fun w => absurd w.1 (by decide)) (fun w => by have := w.2; omega)).2.2]; exact c2 p hp
  · rw [(h.1 0 j (by decide) (fun w => absurd w.1 (by decide)) (fun w => by have := w.2; omega)).2.2]; exact c3 j j0 j1
theorem kpq.cTx (h : kpq o σ σ1) (ho : 251 ≤ o) (hc : cTx σ T) : cTx σ1 T := by
  have g : gq (fun F x => (F / 1000 = 2 ∧ x = 0) ∨ (F / 1000 = 0 ∧ x = o)) σ σ1 := fun F x hF hx => by
    obtain ⟨a1, a2, a3⟩ := h.1 F x hF (fun w => hx (Or.inl w)) (fun w => hx (Or.inr w))
    exact ⟨a1, fun i => by rw [a2], a3⟩
  have h1 : ∀ p, p ∈ cTxF → ¬ p.1 / 1000 = 0 ∧ ¬ p.1 / 1000 = 2 := by decide
  refine hc.gq g (fun p hp => ?_) (fun x x0 x1 => ⟨fun w => ?_, fun w => ?_⟩)
  · obtain ⟨d1, d2⟩ := h1 p hp
    exact fun w => w.elim (fun w => d2 w.1) (fun w => d1 w.1)
  · rcases w with w | w
    · exact absurd w.1 (by decide)
    · have := w.2; omega
  · rcases w with w | w
    · exact absurd w.1 (by decide)
    · have := w.2; omega
theorem cT_eq (h : cT σ g N β) (hc : cln σ1) (e : ∀ F, F / 1000 = 9 → rs σ1 F 0 = rs σ F 0 ∧ ra σ1 F 0 = ra σ F 0 ∧ rl σ1 F 0 = rl σ F 0) : cT σ1 g N β := by
  obtain ⟨⟨b1, b⟩, m⟩ := h
  unfold cT cT0 mk0
  rw [(e 9000 (by decide)).1, (e 9001 (by decide)).1, (e 9003 (by decide)).2.1, (e 9005 (by decide)).2.1, (e 9006 (by decide)).2.1, (e 9004 (by decide)).2.1, (e 9003 (by decide)).2.2, (e 9004 (by decide)).2.2, (e 9005 (by decide)).2.2, (e 9006 (by decide)).2.2]
  exact ⟨⟨hc, b⟩, m⟩
theorem kpq.cT (h : kpq o σ σ1) (hc : cT σ g N β) : cT σ1 g N β := cT_eq hc (h.cln hc.1.1) (fun F hF => h.1 F 0 (by omega) (fun w => by omega) (fun w => by omega))
theorem kpM (h : kpq o σ σ1) (hm : memR σ M) (ho : ∀ j : Int, 0 ≤ j → j < 40 → 0 ≤ ra σ 5005 0 j → ¬ ra σ 5005 0 j = o) (hk : rk σ 0 ≤ rk σ1 0) (hK : rkK σ1) : memR σ1 M := by
  obtain ⟨h1, h2, h3, h4, h5, h6, h7, h8, h9, h10, h11⟩ := hm
  have e : ∀ F, (F / 1000 = 3 ∨ F / 1000 = 5 ∨ F / 1000 = 6) → rs σ1 F 0 = rs σ F 0 ∧ ra σ1 F 0 = ra σ F 0 ∧ rl σ1 F 0 = rl σ F 0 := fun F hF => h.1 F 0 (by omega) (fun w => by omega) (fun w => by omega)
  have hf : ∀ j : Int, 0 ≤ j → j < 40 → 0 ≤ ra σ 5005 0 j → rs σ1 1 (ra σ 5005 0 j) = rs σ 1 (ra σ 5005 0 j) ∧ ra σ1 0 (ra σ 5005 0 j) = ra σ 0 (ra σ 5005 0 j) ∧ rl σ1 0 (ra σ 5005 0 j) = rl σ 0 (ra σ 5005 0 j) := fun j j0 j1 j2 => by
    have hne := ho j j0 j1 j2
    have a := h.1 1 (ra σ 5005 0 j) (by decide) (fun w => absurd w.1 (by decide)) (fun w => hne w.2)
    have b := h.1 0 (ra σ 5005 0 j) (by decide) (fun w => absurd w.1 (by decide)) (fun w => hne w.2)
    exact ⟨a.1, b.2.1, b.2.2⟩
  unfold memR
  rw [(e 5000 (by decide)).1, (e 5004 (by decide)).2.1, (e 5001 (by decide)).2.1, (e 5002 (by decide)).2.1, (e 5005 (by decide)).2.1, (e 6000 (by decide)).1, (e 6001 (by decide)).2.2, (e 3002 (by decide)).1, (e 3001 (by decide)).2.2]
  refine ⟨h1, h2, fun j hj => ?_, h4, fun j j0 j1 j2 => ?_, h6, h7, h8, h9, h10, h11.1, h11.2.1, hK⟩
  · obtain ⟨c1, c2, c3, c4, c5, c6, c7, c8, c9, c10⟩ := h3 j hj
    obtain ⟨d1, d2, d3⟩ := hf (j : Nat) (by omega) (by omega) (by omega)
    refine ⟨c1, c2, c3, c4, by omega, ?_, c7, c8, c9, treeW_cong (e 6001 (by decide)).2.1 (e 3001 (by decide)).2.1 (e 3002 (by decide)).1 c10.1, c10.2⟩
    unfold fT
    rw [d1, d2, d3]
    exact c6
  · obtain ⟨c1, c2, c3⟩ := h5 j j0 j1 j2
    rw [(hf j j0 j1 j2).2.2]
    exact ⟨c1, by omega, c3⟩
theorem kpq.cZ (h : kpq o σ σ1) (hZ : cZ σ T M) (ho : 251 ≤ o) (hne : ∀ j : Int, 0 ≤ j → j < 40 → 0 ≤ ra σ 5005 0 j → ¬ ra σ 5005 0 j = o) (hk : rk σ 0 ≤ rk σ1 0) (hK : rkK σ1) (hj : jnG σ1) : cZ σ1 T M := by
  obtain ⟨z1, z2, z3, z4, z5, z6, z7⟩ := hZ
  have e : ∀ F x, F < 900000 → ¬ F / 1000 = 2 → ¬ F / 1000 = 0 → rs σ1 F x = rs σ F x ∧ ra σ1 F x = ra σ F x ∧ rl σ1 F x = rl σ F x := fun F x hF h2 h0 => h.1 F x hF (fun w => h2 w.1) (fun w => h0 w.1)
  refine ⟨h.cln z1, h.cC ho z2, h.cTx ho z3, kpM h z4 hne hk hK, ?_, ?_, hj⟩
  · rw [(e 9003 0 (by decide) (by decide) (by decide)).2.2, (e 9004 0 (by decide) (by decide) (by decide)).2.2, (e 9005 0 (by decide) (by decide) (by decide)).2.2, (e 9006 0 (by decide) (by decide) (by decide)).2.2, (e 9007 0 (by decide) (by decide) (by decide)).2.2, (e 6001 1 (by decide) (by decide) (by decide)).2.2]
    exact z5
  · unfold mk0
    rw [(e 9004 0 (by decide) (by decide) (by decide)).2.1, (e 9004 0 (by decide) (by decide) (by decide)).2.2]
    exact z6
/-- whether a type's count is kept -/
theorem c_cfind {Q : Int → jS → Prop} {d : Nat} (hn : 4 ≤ n) (hc : cln σ) (hC : cC σ) (hk : cvK σ T may) (hr : fR σ 243 r) (hcl : clr r) (h104 : ∀ t, t ∈ r → t < 104) (h1 : Q (-1) σ) (h2 : Q (vl T may d r) σ) : TrI n i_Counts_find [jo 2 0, jo 0 243, ji d] σ Q := by
  have g243 : rl σ 0 243 = 100 := hC.2.1 (243, 100) (by decide)
  have l0 := cln_at hc 2000 0 128 (by decide)
  have l1 := cln_at hc 2001 0 128 (by decide)
  have l2 := cln_at hc 2002 0 128 (by decide)
  obtain ⟨⟨k1, k2, k3⟩, k4⟩ := hk
  have loop : ∀ (j i : Nat), i + j = (rs σ 2003 0).toNat → J n c_Counts_find (some .int) 2 [some (jo 2 0), some (jo 0 243), some (ji d), some (ji (i : Nat))] [] σ (qI Q) := by
    intro j
    induction j with
    | zero =>
      intro i hi
      refine wp_Counts_find_2 ⟨by omega, ?_⟩
      rw [if_pos (by omega)]
      exact h1
    | succ j ih =>
      intro i hi
      have nx : i32 (((i : Nat) : Int) + 1) ∧ J n c_Counts_find (some .int) 2 [some (jo 2 0), some (jo 0 243), some (ji d), some (ji (((i : Nat) : Int) + 1))] [] σ (qI Q) := ⟨⟨by omega, by omega⟩, ih (i + 1) (by omega)⟩
      refine wp_Counts_find_2 ⟨by omega, ?_⟩
      rw [if_neg (by omega), if_neg (by omega), l1, l0]
      refine ⟨by omega, by omega, by omega, ?_⟩
      obtain ⟨e0, rr, dd, e1, e2, e3, e4, e5, e6⟩ := k4 (i : Nat) (by omega) (by omega)
      by_cases q : ra σ 2001 0 ((i : Nat) : Int) = ((d : Nat) : Int)
      · rw [if_neg (fun w => w q)]
        refine ⟨by omega, by omega, ?_⟩
        rw [if_neg (by omega)]
        refine ⟨by omega, by omega, by omega, ?_⟩
        have hd : dd = d := by omega
        subst hd
        by_cases ql : r.length ≤ 100
        · have hf := hr.fT ql (by omega) g243
          rw [cno_cl hcl] at hf
          refine c_isSame (by omega) e1 hf (by omega) (by omega) e4 h104 ?_
          by_cases qe : rr = r
          · rw [if_pos qe, if_neg (by decide)]
            refine ⟨by omega, by omega, ?_⟩
            rw [e6, qe]
            exact h2
          · rw [if_neg qe, if_pos rfl]
            exact nx
        · refine wp_Flat_isSame ⟨by omega, by omega, ?_⟩
          have := hr.1
          rw [if_neg ql] at this
          rw [if_neg (by rw [this, e1.2.1]; omega), if_pos rfl]
          exact nx
      · rw [if_pos q]
        exact nx
  exact wp_Counts_find (loop (rs σ 2003 0).toNat 0 (by omega))
end ZVc
