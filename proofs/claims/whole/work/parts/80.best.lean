/-! The best ones are tried: what stays from one to the next. -/
section ZTe
variable {n : Nat} {σ σ1 σb : jS} {P : zP} {s s0 s1 : zS} {path β : List (Int × Int)} {x me f f' z8 z9 z10 z11 y11 : Int} {one : Option (Int × List zI × List (Int × Int))} {another anoth2 : Option Int}
theorem spTry_len {ask : zS → Int → zS × zQ} {k : Int} {t : List zI} (h : (spTry P ask k x s).2.2.1 = some t) : (expT (sM (spTry P ask k x s).1) t).length + 1 ≤ 200 := by
  unfold spTry at h ⊢
  generalize spNeeds ask (layGv P.1 k (hG s) (hN s)).2.2.2 (spLay P.1 k x s) [] = R at h ⊢
  obtain ⟨s2, st, r, q⟩ := R
  cases r with
  | none => cases h
  | some u =>
    have h2 : (if 200 < (expT (sM s2) u).length + 1 then ((s2, 6, none, noQ) : zS × zQ) else (s2, st, some u, q)).2.2.1 = some t := h
    show (expT (sM (if 200 < (expT (sM s2) u).length + 1 then ((s2, 6, none, noQ) : zS × zQ) else (s2, st, some u, q)).1) t).length + 1 ≤ 200
    by_cases w : 200 < (expT (sM s2) u).length + 1
    · rw [if_pos w] at h2; cases h2
    · rw [if_neg w] at h2 ⊢
      have e : u = t := by
        have : some u = some t := h2
        cases this; rfl
      subst e
      show (expT (sM s2) u).length + 1 ≤ 200
      omega
/-- the tallies have changed -/
theorem cB_cut {l : List (Nat × Int)} (h : cB σ P s path) (e : cq l σ σ1) (hl : (cBF.all (fun p => !l.contains p || p.1 == 7002)) = true) (hc : (ccT.all (fun p => !l.contains p.1)) = true) (hx : (cTxF.all (fun p => !l.contains p)) = true) (hf : ∀ o : Int, (2 ≤ o ∧ o < 242) ∨ 251 ≤ o → ¬ (0, o) ∈ l ∧ ¬ (1, o) ∈ l) (ht : tly σ1 s1) (hM : sM s1 = sM s) (hA : sA s ≤ sA s1) : cB σ1 P s1 path := by
  have hm : ∀ p, p ∈ cBF → ¬ p.1 = 7002 → l.contains p = false := fun p hp h1 => by
    have := List.all_eq_true.mp hl p hp
    have e1 : (p.1 == 7002) = false := by simpa using h1
    rw [e1] at this
    simpa using this
  obtain ⟨h1, h2, h3, h4, h5, h6, h7, h8, h9, h10⟩ := h
  unfold cB
  rw [e.nrs 7015 0 (by decide) (hm _ (by decide) (by decide)), e.nrs 7016 0 (by decide) (hm _ (by decide) (by decide)), e.nrs 7014 0 (by decide) (hm _ (by decide) (by decide)), e.nrs 7018 0 (by decide) (hm _ (by decide) (by decide)), e.nraf 7010 0 (by decide) (hm _ (by decide) (by decide)), e.nraf 7011 0 (by decide) (hm _ (by decide) (by decide)), e.nrs 6000 1 (by decide) (hm _ (by decide) (by decide)), e.nrl 6001 1 (by decide) (hm _ (by decide) (by decide)), e.nrs 9002 0 (by decide) (hm _ (by decide) (by decide)), e.nrl 9007 0 (by decide) (hm _ (by decide) (by decide)), hM]
  refine ⟨h1.cq e, h2.cq e hc, h3.cq e hx (fun o o0 o1 => hf o (Or.inl ⟨o0, o1⟩)), h4, ht, h6, memR_cq2 h7 e (List.all_eq_true.mpr (fun p hp => ?_)) (fun o o0 => hf o (Or.inr o0)), ⟨h8.1, by omega, h8.2.2⟩, h9, e.2.2.2.2 h10⟩
  have : p ∈ cBF ∧ ¬ p.1 = 7002 := by
    have : ∀ p, p ∈ ([(5000, 0), (5001, 0), (5002, 0), (5004, 0), (5005, 0), (6000, 0), (6001, 0), (3001, 0), (3002, 0), (2000, 0)] : List (Nat × Int)) → p ∈ cBF ∧ ¬ p.1 = 7002 := by decide
    exact this p hp
  rw [hm p this.1 this.2]; rfl
/-- back to fewer nodes: the next one -/
theorem bInv_bk {r : zM × Int × Int × Int × Int × Int} (hg0 : gok s0) (m0 : 0 ≤ me) (m1 : me < rs σ 6000 1) (hI : bInv P σ σ1 s0 s path β x me f one another z8 z9 z10 z11) (hA : sA s ≤ sA (s.1, r)) (hok : nOk (s.1, r)) (hM : ∃ M, sM (s.1, r) = sM s ++ M) (a : aq σ1 σb) (B : cB σb P (s.1, r) path) (e17 : rs σb 7017 0 = 0) (T : cT σb (hG s) (hN s) β) (e12 : ∀ z : Int, z < 4 * ((path.length : Nat) : Int) → ra σb 7012 0 z = ra σ1 7012 0 z) (e60 : rs σb 6000 1 = z8) (e61 : ∀ i, 0 ≤ i → i < z8 * 8 → ¬ i = me * 8 + 5 → ra σb 6001 1 i = ra σ1 6001 1 i) (ef : ra σb 6001 1 (me * 8 + 5) = f') (f0 : 0 ≤ f') (e9 : rs σb 9002 0 = rs σ1 9002 0) (e90 : ∀ i, 0 ≤ i → i < rs σ1 9002 0 → ra σb 9007 0 i = ra σ1 9007 0 i) (hS : 0 ≤ rs σ 9002 0) (hano : anoI one anoth2 y11) : bInv P σ σb s0 (s.1, r) path β x me f' one anoth2 z8 z9 z10 y11 := by
  obtain ⟨a1, a2, a3, a4, a5, a6, a7, a8, a9, a10, ⟨a11, a12, a13⟩, a14, a15, a16, a17, a18⟩ := hI
  obtain ⟨j1, j2, j3, j4, j5⟩ := a7
  obtain ⟨M, eM⟩ := hM
  have hle : rs σ 9002 0 ≤ rs σ1 9002 0 := by
    cases one with
    | none => have := a16.2.2.1; omega
    | some o => obtain ⟨-, -, -, -, ⟨nw, w1, -⟩, -⟩ := a16; omega
  refine ⟨a1.tr a, B, e17, T, a5, ⟨a6.1, a6.2.1, a6.2.2.1, hok.2.1⟩, ⟨j1, j2, j3, j4, ?_⟩, hok, by omega, fun z hz => by rw [e12 z hz]; exact a10 z hz, ⟨e60, a12, fun z z0 z1 z2 z3 => ?_⟩, ef, fun z z0 z1 => by rw [e90 z z0 (by omega)]; exact a15 z z0 z1, ?_, hano, f0⟩
  · cases one with
    | none => exact j5
    | some o =>
      obtain ⟨k1, k2, k3⟩ := j5
      refine ⟨k1, ?_, ?_⟩
      · show hN s ≤ hN s0 + 60 + 120 * (sA (s.1, r) - sA s0)
        omega
      · show (zu (hG s) (hN s) : Int) ≤ zu (hG s0) (hN s0) + 26 + 52 * (sA (s.1, r) - sA s0)
        omega
  · rw [e61 z z0 (by omega) z3]
    exact a13 z z0 z1 z2 z3
  · cases one with
    | none =>
      obtain ⟨o1, o2, o3, o4⟩ := a16
      exact ⟨o1, o2, by rw [e9]; exact o3, o4⟩
    | some o =>
      obtain ⟨o1, o2, o3, o4, ⟨nw, o5, o6, o7, o8⟩, o9, o10, o11, o12⟩ := a16
      refine ⟨o1, o2, ?_, o4, ⟨nw, by rw [e9]; exact o5, fun j hj => ?_, o7, o8⟩, planS_cong (fun z z0 z1 => ?_) o9, o10, o11, fun m hm => ?_⟩
      · rw [eM, expT_app o12]; exact o3
      · have := o6 j hj
        rw [List.length_reverse] at hj
        rw [e90 _ (by omega) (by omega), e90 _ (by omega) (by omega)]
        exact this
      · have hz8 : z < z8 * 8 := by rw [o10]; exact z1
        exact e61 z (by omega) hz8 (by omega)
      · have := o12 m hm
        rw [eM, List.length_append]
        omega
end ZTe
