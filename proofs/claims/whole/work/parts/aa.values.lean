/-! How many values: the call as a whole, both programs. -/
/-- GIVENS of some SCOPES that may be taken -/
def usQ (T : zT) (O U : Int) (C : List Int) (g : Int) : Prop := 0 ≤ g ∧ g < tG T ∧ tH T g ∈ C ∧ ¬ tb O g = true ∧ ¬ tb U (tH T g) = true
noncomputable def usB (T : zT) (O U k : Int) : Int := bsO (usQ T O U (chn T 6 k))
/-- one of these has letters in its NEEDS that its RESULT has not -/
def vBad (T : zT) (may g : Int) : Prop := tb may g = true ∧ ∃ v, vsG T g 1 (tN T g).toNat v ∧ ¬ vsG T g 0 0 v
noncomputable def vaV (T : zT) (O U : Int) (r : List Int) (k : Int) (d : Nat) : Int := if ¬ clsd r = true then -1 else if dcd (∃ g, 0 ≤ g ∧ g < tG T ∧ vBad T (usB T O U k) g) = true then -2 else vl T (usB T O U k) d r
def vsFp (F : Nat) (o : Int) : Prop := vFp F o ∨ (F, o) ∈ ([(6000, 1), (7002, 0), (7014, 0), (7015, 0), (7016, 0), (7017, 0)] : List (Nat × Int))
section ZVl
variable {n d : Nat} {σ σ1 σ2 : jS} {T : zT} {M : zM} {r : List Int} {i : Nat} {Y : Nat → List Int} {O U k may : Int}
theorem bse_z {b : Int} {C : Int → Prop} (h : bse b C) (hC : ∀ v, C v → 0 ≤ v ∧ v < 32) : b = 0 ↔ ¬ ∃ v, C v := by
  constructor
  · rintro e ⟨v, hv⟩
    have := (h.2 v (hC v hv).1 (hC v hv).2).mpr hv
    rw [e, tb_0] at this
    cases this
  · intro w
    exact bse_uni h (bse_0 (fun v hv => w ⟨v, hv⟩))
theorem tbn_pos {x : Int} {k : Int} (k0 : 0 ≤ k) (h : tb x k = true) : ∀ m : Nat, k < ((m : Nat) : Int) → 0 < tbn m x := by
  intro m
  induction m with
  | zero => intro w; omega
  | succ m ih =>
    intro w
    have hg := (tbn_ge m x).1
    show 0 < tbn m x + (if tb x ((m : Nat) : Int) = true then 1 else 0)
    by_cases q : k = ((m : Nat) : Int)
    · rw [← q, if_pos h]; omega
    · have := ih (by omega)
      split <;> omega
theorem tbn_z {b : Int} {C : Int → Prop} (h : bse b C) (hC : ∀ v, C v → 0 ≤ v ∧ v < 32) : tbn 32 b ≤ 0 ↔ ¬ ∃ v, C v := by
  constructor
  · rintro e ⟨v, hv⟩
    have := tbn_pos (hC v hv).1 ((h.2 v (hC v hv).1 (hC v hv).2).mpr hv) 32 (by have := (hC v hv).2; omega)
    omega
  · intro w
    rw [(bse_z h hC).mpr w, tbn_0]
    exact Int.le_refl _
theorem vNo_of (hT : tok T) (h : ¬ ∃ g, 0 ≤ g ∧ g < tG T ∧ vBad T may g) : vNo T may := by
  intro k k0 k1 hm i hi t ht hn
  obtain ⟨-, -, -, -, a5⟩ := hT.2.2.2.2.2 k k0 k1
  have tg := (a5 i hi).2.1 t ht
  unfold thg at tg
  by_cases q : i = 0
  · subst q; exact ht
  · by_cases w : t ∈ tR T k 0
    · exact w
    · refine absurd ⟨k, k0, k1, hm, -1 - t, ⟨by omega, by omega, i, by omega, by omega, ?_⟩, ?_⟩ h
      · rw [show -1 - (-1 - t) = t by omega]; exact ht
      · rintro ⟨-, -, j, j1, j2, j3⟩
        have : j = 0 := by omega
        subst this
        rw [show -1 - (-1 - t) = t by omega] at j3
        exact w j3
theorem clr_of (h : clsd r = true) : clr r := fun t ht => by
  have := List.all_eq_true.mp h t ht
  simpa using this
/-- a closed type that is laid in an empty heap -/
theorem vOK_lA (h : rwk r) (hc : clsd r = true) : vOK (lA r).1 (lA r).2.1 [] (xA r) (zrg (lA r).2.1) r ∧ (zrg (lA r).2.1).length ≤ 12 := by
  obtain ⟨o1, o2, o3, o4, o5⟩ := lA_ok h
  have lk1 := lA_lok h
  have hrt := lay_root lk1 h.1
  have hz := lk1.2.2.2.1
  have n1 := lk1.1
  have hs := ex_sol hz o1.1 o1.2.1
  have e := hrt.2.2.1 _ (sol_iff.mp hs).1
  rw [sbt_cl (clr_of hc)] at e
  refine ⟨⟨hz, o1.1, o1.2.1, by omega, o2, e, clr_of hc, mem_zrg_iff.mpr o2, fun m hm => mem_zrg_iff.mp hm, fun m hm m0 m1 => ⟨fun p hp => ?_, fun w => absurd rfl w⟩⟩, ?_⟩
  · have := (hz m m0 m1).2 p hp
    exact mem_zrg_iff.mpr ⟨this.1, by omega⟩
  · unfold zrg
    rw [List.length_map, List.length_range]
    omega
/-- GIVENS that may be taken: the class -/
theorem c_usableFrom {Q : Int → jS → Prop} (hn : 3 ≤ n) (hc : cln σ) (hx : cTx σ T) (k0 : 0 ≤ k) (k1 : k < tS T) (hO : rs σ 7015 0 = O) (hU : rs σ 7016 0 = U) (hq : Q (usB T O U k) σ) : TrI n i_Search_usableFrom [jo 7 0, ji k] σ Q := by
  have hx0 := hx
  obtain ⟨p1, tx, p2, p3, p4, p5, p6, p7, p8, p9⟩ := hx
  have hk5 := (p1.2.2.2.2.1 k k0 k1).2
  have fin : ∀ (acc : Int) (pre : List Int), bse acc (usQ T O U pre) → (∀ z, z ∈ chn T 6 k ↔ z ∈ pre) → Q acc σ := fun acc pre hb hpre => by
    have e : acc = usB T O U k := bsO_eq (bse_iff hb (fun g _ _ => by
      unfold usQ
      rw [hpre]))
    rw [e]
    exact hq
  have loop : ∀ (m : Nat) (s l acc : Int) (pre : List Int), l + ((m : Nat) : Int) = 6 → 0 ≤ l → (s = -1 ∨ (0 ≤ s ∧ s < tS T ∧ tL T s < ((m : Nat) : Int))) → bse acc (usQ T O U pre) → (∀ z, z ∈ chn T 6 k ↔ z ∈ pre ∨ z ∈ chn T m s) → J n c_Search_usableFrom (some .int) 7 [some (jo 7 0), none, some (ji acc), some (ji s), some (ji l)] [] σ (qI Q) := by
    intro m
    induction m with
    | zero =>
      intro s l acc pre hl l0 hs hb hpre
      refine wp_Search_usableFrom_7 ?_
      rw [if_pos (by omega)]
      refine fin acc pre hb (fun z => (hpre z).trans ⟨fun w => ?_, Or.inl⟩)
      rcases w with w | w
      · exact w
      · cases w
    | succ m ih =>
      intro s l acc pre hl l0 hs hb hpre
      refine wp_Search_usableFrom_7 ?_
      rw [if_neg (by omega)]
      by_cases qs : s = -1
      · rw [if_pos qs]
        rw [qs, chn_m1] at hpre
        refine fin acc pre hb (fun z => (hpre z).trans ⟨fun w => ?_, Or.inl⟩)
        rcases w with w | w
        · exact w
        · cases w
      · rw [if_neg qs]
        obtain ⟨s0, s1, sl⟩ := hs.resolve_left qs
        have e : chn T (m + 1) s = s :: chn T m (tA T s) := if_neg qs
        refine ⟨by omega, by omega, c_usable (by omega) hc hx0 s0 s1 (fun b hb2 => ?_)⟩
        rw [hO, hU] at hb2
        rw [p3]
        refine ⟨by omega, c_aroundOf (by omega) hc p2 p1 p5 (fun k h0 h1 => (p8 k h0 h1).1) s0 s1 ⟨⟨by omega, by omega⟩, ?_⟩⟩
        refine ih (tA T s) (l + 1) _ (pre ++ [s]) (by omega) (by omega) (tok_aro p1 s0 s1 sl) (bse_iff (bse_or hb hb2) (fun g _ _ => ?_)) (fun z => ?_)
        · unfold usQ
          rw [List.mem_append, List.mem_singleton]
          constructor
          · rintro (⟨w1, w2, w3, w4, w5⟩ | ⟨w1, w2, w3, w4, w5⟩)
            · exact ⟨w1, w2, Or.inl w3, w4, w5⟩
            · exact ⟨w1, w2, Or.inr w3, w4, by rw [w3]; exact w5⟩
          · rintro ⟨w1, w2, w3 | w3, w4, w5⟩
            · exact Or.inl ⟨w1, w2, w3, w4, w5⟩
            · exact Or.inr ⟨w1, w2, w3, w4, by rw [← w3]; exact w5⟩
        · rw [hpre, e, List.mem_append, List.mem_singleton, List.mem_cons, or_assoc]
  exact wp_Search_usableFrom (loop 6 k 0 0 [] (by omega) (by omega) (Or.inr ⟨k0, k1, by omega⟩) (bse_0 (fun g w => by have := w.2.2.1; cases this)) (fun z => ⟨Or.inr, fun w => by
    rcases w with w | w
    · cases w
    · exact w⟩))
set_option maxRecDepth 8000 in
theorem c_values {Q : Int → jS → Prop} (hn : 25 ≤ n) (hZ : cZ σ T M) (hO : rs σ 12009 0 = O) (hU : rs σ 12010 0 = U) (hY : pYc σ Y) (hi : i < 4) (k0 : 0 ≤ k) (k1 : k < tS T) (hd : d ≤ 3)
    (hq : ∀ σ', kq vsFp σ σ' → cZ σ' T M → Q (vaV T O U (Y i) k d) σ') : TrI n i_Top_values [jo 12 0, ji ((i : Nat) : Int), ji k, ji ((d : Nat) : Int)] σ Q := by
  have hZ0 := hZ
  obtain ⟨z1, z2, z3, z4, z5, z6, z7⟩ := hZ
  have z30 := z3
  obtain ⟨p1, tx, p2, p3, p4, p5, p6, p7, p8, p9⟩ := z3
  have l01 := cln_at z1 12001 0 4 (by decide)
  obtain ⟨a1, a2, a3⟩ := hY i hi
  have t127 := cC_at z2 12007 0 0 (by decide)
  have hG := p1.2.2.2.1
  have hi12 := a1.2.2
  have h104 : ∀ t, t ∈ Y i → t < 104 := fun t ht => by
    have := a1.2.1 t ht
    unfold thg at this
    omega
  unfold vaV at hq
  refine wp_Top_values ⟨by omega, by omega, c_hasType z1 (fun w => absurd (show 0 ≤ ((i : Nat) : Int) ∧ ((i : Nat) : Int) < 4 by omega) w) (fun _ => ?_)⟩
  rw [if_neg (by decide), p4]
  refine ⟨by omega, c_hasScope (by omega) p5 p1 ?_⟩
  rw [show (if 0 ≤ k ∧ k < tS T then (1 : Int) else 0) = 1 from if_pos ⟨k0, k1⟩, if_neg (by decide), if_neg (by omega), if_neg (by omega), l01, a2]
  refine ⟨by omega, by omega, by omega, by omega, c_isClosed (by omega) (a3.fP (by omega) h104) (by have := a3.2.1; have := a3.2.2.1; omega) ?_⟩
  by_cases qc : clsd (Y i) = true
  rotate_left
  · rw [if_neg qc, if_neg (fun w => w rfl)]
    have := hq σ (kq.rf _ σ) hZ0
    rw [if_pos qc] at this
    exact this
  rw [if_pos qc, if_pos (by decide), t127, hO, hU]
  rw [if_neg (fun w => w qc)] at hq
  refine ⟨by omega, c_begin (P := (T, O, U, k, true)) (M := M) (by omega) hZ0 (fun s9 f9 ⟨v90, v91, v92, v60, v14, v15, v16, v17⟩ v72 => ?_)⟩
  have C9 : cC s9 := z2.fq (sq_r1 f9) (by decide)
  have T9 : cT s9 gz0 0 [] := cT_0 hZ0 f9 (by decide) v90 v91
  have K9 : cq bnF σ s9 := f9.cq (by decide)
  have Z9 : cZ s9 T M := hZ0.tw K9 T9 (by decide) (nofl3 (by decide))
  have q9 : kq vsFp σ s9 := cq_kq K9 (by unfold vsFp vFp bnF; decide)
  rw [cC_at C9 12007 0 0 (by decide)]
  refine ⟨by omega, c_usableFrom (by omega) Z9.1 Z9.2.2.1 k0 k1 v15 v16 ?_⟩
  generalize hmay : usB T O U k = may at *
  have hz0 : zu gz0 0 = 0 := rfl
  have u26 := unu_26 (fun _ => -1)
  obtain ⟨y1, ty, y2, y3, y4, y5, y6, y7, y8, y9⟩ := id Z9.2.2.1
  -- all are looked at
  have loop : ∀ (j g : Nat), g + j = (tG T).toNat → (∀ g' : Nat, g' < g → ¬ vBad T may ((g' : Nat) : Int)) → J n c_Top_values (some .int) 71 [some (jo 12 0), some (ji ((i : Nat) : Int)), none, some (ji ((d : Nat) : Int)), some (ji may), some (ji ((g : Nat) : Int))] [] s9 (qI Q) := by
    intro j
    induction j with
    | zero =>
      intro g hg hno
      refine wp_Top_values_71 ⟨by omega, by omega, ?_⟩
      rw [y4, y6, if_pos (by omega), cC_at C9 12007 0 0 (by decide), cC_at C9 7000 0 0 (by decide), f9.nrl 12001 0, l01, f9.nra 12001 0 _ (by decide), a2]
      have hnb : ¬ ∃ g, 0 ≤ g ∧ g < tG T ∧ vBad T may g := by
        rintro ⟨g1, w0, w1, w2⟩
        refine hno g1.toNat (by omega) ?_
        rw [show ((g1.toNat : Nat) : Int) = g1 by omega]
        exact w2
      rw [if_neg (by rw [dcd_iff]; exact hnb)] at hq
      have hvar := vNo_of p1 hnb
      refine ⟨by omega, by omega, by omega, by omega, by omega, by omega, c_build (g := gz0) (N := 0) (β := []) (vs := fun _ => -1) (by omega) T9 (a3.sq f9 (by decide)) (fun v => Or.inl rfl) (Or.inr ⟨rfl, rfl⟩) a1.2.1 a1.1 (by omega) (by rw [hz0]; omega) (by omega) (fun s16 T16 V16 q16 lk1 => ?_)⟩
      have T16 : cT s16 (lA (Y i)).1 (lA (Y i)).2.1 [] := T16
      obtain ⟨o1, o2, o3, o4, o5⟩ := lA_ok a1
      obtain ⟨v1, v2⟩ := vOK_lA a1 qc
      have Z16 : cZ s16 T M := Z9.tw q16 T16 (by decide) (nofl3 (by decide))
      have t77 := cC_at Z16.2.1 7007 0 0 (by decide)
      refine ⟨by omega, wp_Search_countValues ⟨by omega, by omega, by omega, ?_⟩⟩
      rw [t77]
      refine wp_Counts_clear ⟨by omega, fun s2 e2 s3 e3 => ?_⟩
      have f3 : sq [(2003, 0), (2004, 0)] s16 s3 := by rw [e3, e2]; exact ((sq.rf _ s16).pws 2003 0 _ (by decide)).pws 2004 0 _ (by decide)
      have r3 : rs s3 2003 0 = 0 ∧ rs s3 2004 0 = 0 := by rw [e3, e2]; exact ⟨rfl, rfl⟩
      have K3 : cq [(2003, 0), (2004, 0)] s16 s3 := f3.cq (by decide)
      have T3 : cT s3 (lA (Y i)).1 (lA (Y i)).2.1 [] := T16.sq f3 (by decide)
      have Z3 : cZ s3 T M := Z16.tw K3 T3 (by decide) (nofl3 (by decide))
      have A3 : cvA s3 T M may (lA (Y i)).1 (lA (Y i)).2.1 [] := ⟨Z3, T3, by rw [r3.1, r3.2]; omega, fun i i0 i1 => by rw [r3.1] at i1; omega⟩
      rw [show min ((d : Nat) : Int) 3 = ((d : Nat) : Int) by omega]
      show TrI (n - 1 - 1) i_Search_count [jo 7 0, ji (xA (Y i)), ji may, ji ((d : Nat) : Int)] s3 _
      have e12 : (Y i).length * 12 ^ d ≤ 20736 := by
        have h1 : 12 ^ d ≤ 12 ^ 3 := Nat.pow_le_pow_right (by decide) hd
        have h2 := Nat.mul_le_mul hi12 h1
        exact Nat.le_trans h2 (by decide)
      refine c_count hvar d hd (n - 1 - 1) s3 _ _ [] (xA (Y i)) _ (Y i) _ (by omega) A3 v1 e12 (by omega) (by omega) (by omega) (fun σ' kv A' => ?_)
      refine hq σ' (((q9.tr (cq_kq q16 (by unfold vsFp vFp; decide))).tr (cq_kq K3 (by unfold vsFp vFp; decide))).tr (kv.1.mo (fun F o w => Or.inl w))) A'.1
    | succ j ih =>
      intro g hg hno
      have hgG : ((g : Nat) : Int) < tG T := by omega
      obtain ⟨b1, b2, b3, b4⟩ := y9 ((g : Nat) : Int) (by omega) hgG
      obtain ⟨c1, c2, c3, c4, c5⟩ := p1.2.2.2.2.2 ((g : Nat) : Int) (by omega) hgG
      refine wp_Top_values_71 ⟨by omega, by omega, ?_⟩
      rw [y4, y6, if_neg (by omega)]
      refine ⟨by omega, c_isIn (by omega) (by omega) ?_⟩
      unfold has1
      by_cases qm : tb may ((g : Nat) : Int) = true
      · rw [if_pos qm, if_neg (by decide), y4]
        refine ⟨by omega, c_needVars (by omega) Z9.1 Z9.2.2.1 y4 (by omega) hgG (fun b hb => ?_)⟩
        rw [y4]
        refine ⟨by omega, c_partFlat (i := 0) y2 Z9.1 y7 (by omega) (by omega) (by omega) ?_⟩
        refine c_varLetters (by omega) (b3 0 (by omega)) (c5 0 c3).2.1 (by have := (c5 0 c3).2.2; omega) (fun c hc => ?_)
        have hu : bse (bAnd b (bXor c (-1))) (fun v => vsG T ((g : Nat) : Int) 1 (tN T ((g : Nat) : Int)).toNat v ∧ ¬ vsG T ((g : Nat) : Int) 0 0 v) := bse_iff (bse_no hb hc) (fun v v0 v1 => by
          constructor
          · rintro ⟨h1, h2⟩
            refine ⟨h1, ?_⟩
            rintro ⟨w1, w2, j, j1, j2, j3⟩
            have : j = 0 := by omega
            subst this
            exact h2 ⟨w1, w2, j3⟩
          · rintro ⟨h1, h2⟩
            exact ⟨h1, fun h3 => h2 ⟨h3.1, h3.2.1, 0, by omega, by omega, h3.2.2⟩⟩)
        have hzz := bse_z hu (fun v w => ⟨w.1.1, by have := w.1.2.1; omega⟩)
        by_cases qb : bAnd b (bXor c (-1)) = 0
        · rw [if_pos qb]
          refine ⟨⟨by omega, by omega⟩, ?_⟩
          have := ih (g + 1) (by omega) (fun g' hg' => by
            by_cases w : g' = g
            · subst w; exact fun w2 => hzz.mp qb w2.2
            · exact hno g' (by omega))
          exact this
        · rw [if_neg qb]
          have w : ∃ v, vsG T ((g : Nat) : Int) 1 (tN T ((g : Nat) : Int)).toNat v ∧ ¬ vsG T ((g : Nat) : Int) 0 0 v := by
            rcases Classical.em (∃ v, vsG T ((g : Nat) : Int) 1 (tN T ((g : Nat) : Int)).toNat v ∧ ¬ vsG T ((g : Nat) : Int) 0 0 v) with h | h
            · exact h
            · exact absurd (hzz.mpr h) qb
          have := hq s9 q9 Z9
          rw [if_pos (by rw [dcd_iff]; exact ⟨((g : Nat) : Int), by omega, hgG, qm, w⟩)] at this
          exact this
      · rw [if_neg qm, if_pos rfl]
        refine ⟨⟨by omega, by omega⟩, ?_⟩
        have := ih (g + 1) (by omega) (fun g' hg' => by
          by_cases w : g' = g
          · subst w; exact fun w2 => qm w2.1
          · exact hno g' (by omega))
        exact this
  exact loop (tG T).toNat 0 (by omega) (fun g' h => absurd h (Nat.not_lt_zero _))
/-- GIVENS that may be taken: the reference -/
theorem t_allAround {Q : Int → jS → Prop} (hn : 1 ≤ n) (hm : mln σ) (hX : mTx σ T) (k0 : 0 ≤ k) (k1 : k < tS T) (hO : rs σ 1015 0 = O) (hU : rs σ 1016 0 = U) (hq : Q (usB T O U k) σ) : TrI n i_Model_allAround [jo 1 0, ji k] σ Q := by
  have p1 := hX.1
  have hG := p1.2.2.2.1
  have hG0 := p1.2.2.1
  have hS := p1.2.1
  have l08 := mln_at hm 1008 8 (by decide)
  have l09 := mln_at hm 1009 24 (by decide)
  have hk5 := (p1.2.2.2.2.1 k k0 k1).2
  have inner : ∀ (j g : Nat) (s acc : Int) (pre : List Int), 0 ≤ s → s < tS T → g + j = (tG T).toNat → bse acc (fun c => usQ T O U pre c ∨ (usQ T O U [s] c ∧ c < ((g : Nat) : Int))) → (∀ acc2, bse acc2 (usQ T O U (pre ++ [s])) → J n c_Model_allAround (some .int) 4 [some (jo 1 0), none, some (ji acc2), some (ji (tA T s)), none] [] σ (qI Q)) → J n c_Model_allAround (some .int) 12 [some (jo 1 0), none, some (ji acc), some (ji s), some (ji ((g : Nat) : Int))] [] σ (qI Q) := by
    intro j
    induction j with
    | zero =>
      intro g s acc pre s0 s1 hg hb hnext
      refine wp_Model_allAround_12 ⟨by omega, ?_⟩
      rw [hX.2.2.1, if_pos (by omega), hX.2.2.2.1 s s0 s1]
      refine ⟨by omega, by omega, by omega, hnext acc (bse_iff hb (fun c _ _ => ?_))⟩
      unfold usQ
      rw [List.mem_append]
      constructor
      · rintro (⟨w1, w2, w3, w4, w5⟩ | ⟨⟨w1, w2, w3, w4, w5⟩, -⟩)
        · exact ⟨w1, w2, Or.inl w3, w4, w5⟩
        · exact ⟨w1, w2, Or.inr w3, w4, w5⟩
      · rintro ⟨w1, w2, w3 | w3, w4, w5⟩
        · exact Or.inl ⟨w1, w2, w3, w4, w5⟩
        · exact Or.inr ⟨⟨w1, w2, w3, w4, w5⟩, by omega⟩
    | succ j ih =>
      intro g s acc pre s0 s1 hg hb hnext
      have hgG : ((g : Nat) : Int) < tG T := by omega
      have hgv := hX.2.2.2.2.1 ((g : Nat) : Int) (by omega) hgG
      have step : ∀ acc2, bse acc2 (fun c => usQ T O U pre c ∨ (usQ T O U [s] c ∧ c < ((g + 1 : Nat) : Int))) → i32 (((g : Nat) : Int) + 1) ∧ J n c_Model_allAround (some .int) 12 [some (jo 1 0), none, some (ji acc2), some (ji s), some (ji (((g : Nat) : Int) + 1))] [] σ (qI Q) := fun acc2 hb2 => ⟨⟨by omega, by omega⟩, ih (g + 1) s acc2 pre s0 s1 (by omega) hb2 hnext⟩
      have no : ¬ usQ T O U [s] ((g : Nat) : Int) → bse (bOr acc 0) (fun c => usQ T O U pre c ∨ (usQ T O U [s] c ∧ c < ((g + 1 : Nat) : Int))) := fun w => by
        rw [bOr_0 hb.1]
        refine bse_iff hb (fun c _ _ => ⟨fun w2 => ?_, fun w2 => ?_⟩)
        · rcases w2 with w2 | ⟨w2, w3⟩
          · exact Or.inl w2
          · exact Or.inr ⟨w2, by omega⟩
        · rcases w2 with w2 | ⟨w2, w3⟩
          · exact Or.inl w2
          · refine Or.inr ⟨w2, ?_⟩
            by_cases e : c = ((g : Nat) : Int)
            · rw [e] at w2; exact absurd w2 w
            · omega
      refine wp_Model_allAround_12 ⟨by omega, ?_⟩
      rw [hX.2.2.1, if_neg (by omega), hgv.1, hO]
      refine ⟨by omega, by omega, by omega, ?_⟩
      by_cases qs : tH T ((g : Nat) : Int) = s
      · rw [if_neg (fun w => w qs)]
        refine ⟨by omega, t_has (by omega) (by omega) ?_⟩
        unfold has1
        by_cases qo : tb O ((g : Nat) : Int) = true
        · rw [if_pos qo, if_pos (by decide)]
          exact step _ (no (fun w => w.2.2.2.1 qo))
        · rw [if_neg qo, if_neg (by decide), hU]
          refine t_has (by omega) (by omega) ?_
          unfold has1
          by_cases qh : tb U s = true
          · rw [if_pos qh, if_pos (by decide)]
            exact step _ (no (fun w => w.2.2.2.2 (by rw [qs]; exact qh)))
          · rw [if_neg qh, if_neg (by decide)]
            refine step _ (bse_iff (bse_or1 hb (by omega) (by omega)) (fun c _ _ => ?_))
            constructor
            · rintro ((w | ⟨w, w2⟩) | w)
              · exact Or.inl w
              · exact Or.inr ⟨w, by omega⟩
              · rw [w]
                exact Or.inr ⟨⟨by omega, hgG, by rw [qs]; exact List.mem_singleton.mpr rfl, qo, by rw [qs]; exact qh⟩, by omega⟩
            · rintro (w | ⟨w, w2⟩)
              · exact Or.inl (Or.inl w)
              · by_cases e : c = ((g : Nat) : Int)
                · exact Or.inr e
                · exact Or.inl (Or.inr ⟨w, by omega⟩)
      · rw [if_pos qs]
        exact step _ (no (fun w => qs (List.mem_singleton.mp w.2.2.1)))
  have fin : ∀ (acc : Int) (pre : List Int), bse acc (usQ T O U pre) → (∀ z, z ∈ chn T 6 k ↔ z ∈ pre) → Q acc σ := fun acc pre hb hpre => by
    have e : acc = usB T O U k := bsO_eq (bse_iff hb (fun g _ _ => by
      unfold usQ
      rw [hpre]))
    rw [e]
    exact hq
  have loop : ∀ (m : Nat) (s acc : Int) (pre : List Int), (s = -1 ∨ (0 ≤ s ∧ s < tS T ∧ tL T s < ((m : Nat) : Int))) → bse acc (usQ T O U pre) → (∀ z, z ∈ chn T 6 k ↔ z ∈ pre ∨ z ∈ chn T m s) → J n c_Model_allAround (some .int) 4 [some (jo 1 0), none, some (ji acc), some (ji s), none] [] σ (qI Q) := by
    intro m
    induction m with
    | zero =>
      intro s acc pre hs hb hpre
      have es : s = -1 := by
        rcases hs with w | ⟨w1, w2, w3⟩
        · exact w
        · have := (p1.2.2.2.2.1 s w1 w2).2
          omega
      refine wp_Model_allAround_4 ?_
      rw [if_pos es]
      exact fin acc pre hb (fun z => (hpre z).trans ⟨fun w => (by
        rcases w with w | w
        · exact w
        · cases w), Or.inl⟩)
    | succ m ih =>
      intro s acc pre hs hb hpre
      refine wp_Model_allAround_4 ?_
      by_cases qs : s = -1
      · rw [if_pos qs]
        rw [qs, chn_m1] at hpre
        exact fin acc pre hb (fun z => (hpre z).trans ⟨fun w => (by
          rcases w with w | w
          · exact w
          · cases w), Or.inl⟩)
      · rw [if_neg qs]
        obtain ⟨s0, s1, sl⟩ := hs.resolve_left qs
        have e : chn T (m + 1) s = s :: chn T m (tA T s) := if_neg qs
        refine inner (tG T).toNat 0 s acc pre s0 s1 (by omega) (bse_iff hb (fun c _ _ => ⟨Or.inl, fun w => ?_⟩)) (fun acc2 hb2 => ih (tA T s) acc2 (pre ++ [s]) (tok_aro p1 s0 s1 sl) hb2 (fun z => ?_))
        · rcases w with w | ⟨w, w2⟩
          · exact w
          · have := w.1
            omega
        · rw [hpre, e, List.mem_append, List.mem_singleton, List.mem_cons, or_assoc]
  exact wp_Model_allAround (loop 6 k 0 [] (Or.inr ⟨k0, k1, by omega⟩) (bse_0 (fun g w => by have := w.2.2.1; cases this)) (fun z => ⟨Or.inr, fun w => by
    rcases w with w | w
    · cases w
    · exact w⟩))
set_option maxRecDepth 8000 in
theorem t_values {Q : Int → jS → Prop} (hn : 12 ≤ n) (hm : mln σ) (hX : mTx σ T) (hO : rs σ 1015 0 = O) (hU : rs σ 1016 0 = U) (hY : pYm σ Y) (hi : i < 4) (k0 : 0 ≤ k) (k1 : k < tS T) (hd : d ≤ 3)
    (hq : ∀ σ', sq vmF σ σ' → Q (vaV T O U (Y i) k d) σ') : TrI n i_Model_values [jo 1 0, ji ((i : Nat) : Int), ji k, ji ((d : Nat) : Int)] σ Q := by
  have p1 := hX.1
  have hG := p1.2.2.2.1
  have hG0 := p1.2.2.1
  have l10 := mln_at hm 1010 24 (by decide)
  have l46 := mln_at hm 1046 48 (by decide)
  have l47 := mln_at hm 1047 4 (by decide)
  obtain ⟨a1, a2, a3, a4, a5⟩ := hY i hi
  have hi12 := a1.2.2
  have hS := p1.2.1
  unfold vaV at hq
  refine wp_Model_values ⟨by omega, t_isTold (by omega) (fun w => absurd (show 0 ≤ ((i : Nat) : Int) ∧ ((i : Nat) : Int) < 4 by omega) w) (fun _ => ?_)⟩
  rw [if_neg (by decide)]
  refine ⟨by omega, isScope_q hX (by omega) (fun w => absurd ⟨k0, k1⟩ w) (fun _ => ?_)⟩
  rw [if_neg (by decide)]
  refine wp_Model_isIn ?_
  rw [if_neg (by omega), if_neg (by omega), if_pos (by decide)]
  refine ⟨⟨by omega, by omega⟩, ?_⟩
  -- is it closed
  have cl : ∀ (j p : Nat), p + j = (Y i).length → (∀ q, (hq : q < (Y i).length) → q < p → 0 ≤ (Y i)[q]) → (clsd (Y i) = true → TrI (n - 1) i_Model_allAround [jo 1 0, ji k] σ (fun zr9 zs8 => J n c_Model_values (some .int) 76 [some (jo 1 0), some (ji ((i : Nat) : Int)), none, some (ji ((d : Nat) : Int)), some (ji zr9), some (ji 0)] [] zs8 (qI Q))) → J n c_Model_values (some .int) 32 [some (jo 1 0), some (ji ((i : Nat) : Int)), some (ji k), some (ji ((d : Nat) : Int)), some (ji (12 * ((i : Nat) : Int) + ((p : Nat) : Int))), none] [] σ (qI Q) := by
    intro j
    induction j with
    | zero =>
      intro p hp hall hnext
      refine wp_Model_values_32 ⟨⟨by omega, by omega⟩, by omega, by omega, by omega, by omega, ?_⟩
      rw [a2]
      refine ⟨⟨by omega, by omega⟩, ?_⟩
      rw [if_pos (by omega)]
      refine ⟨by omega, hnext (List.all_eq_true.mpr (fun t ht => ?_))⟩
      obtain ⟨q, hq2, e⟩ := List.getElem_of_mem ht
      rw [← e]
      exact decide_eq_true (hall q hq2 (by omega))
    | succ j ih =>
      intro p hp hall hnext
      have hpr : p < (Y i).length := by omega
      have et : (Y i).getD p 0 = (Y i)[p] := by rw [List.getD_eq_getElem?_getD, List.getElem?_eq_getElem hpr]; rfl
      refine wp_Model_values_32 ⟨⟨by omega, by omega⟩, by omega, by omega, by omega, by omega, ?_⟩
      rw [a2]
      refine ⟨⟨by omega, by omega⟩, ?_⟩
      rw [if_neg (by omega), a5 p hpr, et]
      refine ⟨by omega, by omega, by omega, ?_⟩
      by_cases q : 0 ≤ (Y i)[p]
      · rw [if_pos q]
        refine ⟨⟨by omega, by omega⟩, ?_⟩
        rw [show 12 * ((i : Nat) : Int) + ((p : Nat) : Int) + 1 = 12 * ((i : Nat) : Int) + ((p + 1 : Nat) : Int) by omega]
        refine ih (p + 1) (by omega) (fun q2 hq2 hlt => ?_) hnext
        by_cases w : q2 = p
        · subst w; exact q
        · exact hall q2 hq2 (by omega)
      · rw [if_neg q]
        have hnc : ¬ clsd (Y i) = true := fun w => q (clr_of w _ (List.getElem_mem hpr))
        have := hq σ (sq.rf _ σ)
        rw [if_pos hnc] at this
        exact this
  have c0 := cl (Y i).length 0 (by omega) (fun q _ h => absurd h (Nat.not_lt_zero _))
  rw [show 12 * ((i : Nat) : Int) + ((0 : Nat) : Int) = 12 * ((i : Nat) : Int) by omega] at c0
  refine c0 (fun qc => t_allAround (by omega) hm hX k0 k1 hO hU ?_)
  rw [if_neg (fun w => w qc)] at hq
  generalize hmay : usB T O U k = may at *
  have hz0 : zu gz0 0 = 0 := rfl
  have u26 := unu_26 (fun _ => -1)
  have loop : ∀ (j g : Nat), g + j = (tG T).toNat → (∀ g' : Nat, g' < g → ¬ vBad T may ((g' : Nat) : Int)) → J n c_Model_values (some .int) 76 [some (jo 1 0), some (ji ((i : Nat) : Int)), none, some (ji ((d : Nat) : Int)), some (ji may), some (ji ((g : Nat) : Int))] [] σ (qI Q) := by
    intro j
    induction j with
    | zero =>
      intro g hg hno
      refine wp_Model_values_76 ⟨by omega, ?_⟩
      rw [hX.2.2.1, if_pos (by omega)]
      have hnb : ¬ ∃ g, 0 ≤ g ∧ g < tG T ∧ vBad T may g := by
        rintro ⟨g1, w0, w1, w2⟩
        refine hno g1.toNat (by omega) ?_
        rw [show ((g1.toNat : Nat) : Int) = g1 by omega]
        exact w2
      rw [if_neg (by rw [dcd_iff]; exact hnb)] at hq
      have hvar := vNo_of p1 hnb
      refine ⟨by omega, t_beginHeap hm (fun s3 e3 T3 v34 => t_newUnknowns (hm.sq e3) (fun s5 f5 V5 => ?_))⟩
      have e5 : sq [(1033, 0), (1034, 0), (1035, 0), (1036, 0)] σ s5 := (e3.mo (by decide)).tr (f5.mo (by decide))
      have T5 : mT s5 gz0 0 [] := T3.sq f5 (by decide)
      rw [e5.nrl 1046 0, e5.nrl 1047 0, l46, l47, e5.nra 1047 0 _ (by decide), a2]
      refine ⟨by omega, ⟨by omega, by omega⟩, by omega, by omega, by omega, t_layRow (r := Y i) (g := gz0) (N := 0) (β := []) (vs := fun _ => -1) (by omega) T5 V5 (fun v => Or.inl rfl) rfl rfl (by decide) (by omega) (by rw [e5.nrl 1046 0, l46]; omega) (fun k hk => by rw [e5.nra 1046 0 _ (by decide)]; exact a5 k hk) a1.2.1 a1.1 (by omega) (by rw [f5.nrs 1034 0 (by decide), v34]; omega) (by rw [hz0]; omega) (by omega) (by omega) (fun s12 hl1 => ?_)⟩
      obtain ⟨h1, h2, h3, h4, h5, h6, h7, h8⟩ := hl1
      obtain ⟨o1, o2, o3, o4, o5⟩ := lA_ok a1
      obtain ⟨v1, v2⟩ := vOK_lA a1 qc
      have h1 : mT s12 (lA (Y i)).1 (lA (Y i)).2.1 [] := h1
      have x12 : mTx s12 T := (hX.sq e5 (by decide)).sq h3 (by decide)
      have p12 : rs s12 1034 0 ≤ 100 := by
        have := f5.nrs 1034 0 (by decide)
        omega
      show TrI (n - 1) i_Model_valuesOf [jo 1 0, ji (xA (Y i)), ji may, ji ((d : Nat) : Int)] s12 _
      refine t_valuesOf (by omega) hvar hd x12 h1 p12 v1 (by omega) (by omega) (by omega) (fun σ' f' _ => ?_)
      exact hq σ' (((e5.mo (by decide)).tr (h3.mo (by decide))).tr f')
    | succ j ih =>
      intro g hg hno
      have hgG : ((g : Nat) : Int) < tG T := by omega
      obtain ⟨c1, c2, c3, c4, c5⟩ := p1.2.2.2.2.2 ((g : Nat) : Int) (by omega) hgG
      refine wp_Model_values_76 ⟨by omega, ?_⟩
      rw [hX.2.2.1, if_neg (by omega)]
      refine ⟨by omega, t_has (by omega) (by omega) ?_⟩
      unfold has1
      by_cases qm : tb may ((g : Nat) : Int) = true
      · rw [if_pos qm, if_neg (by decide)]
        refine wp_Model_needsVars ⟨by omega, by omega, by omega, by omega, by omega, ?_⟩
        rw [(hX.2.2.2.2.1 ((g : Nat) : Int) (by omega) hgG).2.1]
        have := t_varsOf (k := ((g : Nat) : Int)) (n := n - 1 - 1) (a := 1) (b := (tN T ((g : Nat) : Int)).toNat) (Q := fun z1 s1 => TrI (n - 1 - 1) i_Model_varsOf [jo 1 0, ji ((g : Nat) : Int), ji 0, ji 0] s1 (fun z2 s2 => TrI (n - 1 - 1) i_Model_bits [ji (bAnd z1 (bXor z2 (-1)))] s2 (fun zr21 zs20 => (if zr21 ≤ 0 then i32 (((g : Nat) : Int) + 1) ∧ J n c_Model_values (some .int) 76 [some (jo 1 0), some (ji ((i : Nat) : Int)), none, some (ji ((d : Nat) : Int)), some (ji may), some (ji (((g : Nat) : Int) + 1))] [] zs20 (qI Q) else Q (-2) zs20)))) hm hX (by omega) hgG (by omega) (by omega) (fun s hs => by
          refine t_varsOf (k := ((g : Nat) : Int)) (a := 0) (b := 0) hm hX (by omega) hgG (by omega) (by omega) (fun s2 hs2 => ?_)
          have hu := bse_no hs hs2
          have hp := bse_pos hu (fun h => by have := h.1.2.1; omega)
          have hzz := tbn_z hu (fun v w => ⟨w.1.1, by have := w.1.2.1; omega⟩)
          refine t_bits hp.1 hp.2 ?_
          by_cases qb : tbn 32 (bAnd s (bXor s2 (-1))) ≤ 0
          · rw [if_pos qb]
            refine ⟨⟨by omega, by omega⟩, ?_⟩
            have := ih (g + 1) (by omega) (fun g' hg' => by
              by_cases w : g' = g
              · subst w; exact fun w2 => hzz.mp qb w2.2
              · exact hno g' (by omega))
            exact this
          · rw [if_neg qb]
            have w : ∃ v, vsG T ((g : Nat) : Int) 1 (tN T ((g : Nat) : Int)).toNat v ∧ ¬ vsG T ((g : Nat) : Int) 0 0 v := by
              rcases Classical.em (∃ v, vsG T ((g : Nat) : Int) 1 (tN T ((g : Nat) : Int)).toNat v ∧ ¬ vsG T ((g : Nat) : Int) 0 0 v) with h | h
              · exact h
              · exact absurd (hzz.mpr h) qb
            have := hq σ (sq.rf _ σ)
            rw [if_pos (by rw [dcd_iff]; exact ⟨((g : Nat) : Int), by omega, hgG, qm, w⟩)] at this
            exact this)
        rw [show (((tN T ((g : Nat) : Int)).toNat : Nat) : Int) = tN T ((g : Nat) : Int) by omega] at this
        exact this
      · rw [if_neg qm, if_pos rfl]
        refine ⟨⟨by omega, by omega⟩, ?_⟩
        have := ih (g + 1) (by omega) (fun g' hg' => by
          by_cases w : g' = g
          · subst w; exact fun w2 => qm w2.1
          · exact hno g' (by omega))
        exact this
  exact loop (tG T).toNat 0 (by omega) (fun g' h => absurd h (Nat.not_lt_zero _))
end ZVl
