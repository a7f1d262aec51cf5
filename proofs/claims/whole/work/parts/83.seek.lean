/-! A scope is searched: the class. -/
/-- what searching a scope, or all scopes, leaves -/
def sPost (P : zP) (σ σ' : jS) (s : zS) (path β : List (Int × Int)) (x me : Int) (R : zS × zQ) : Prop :=
  aq σ σ' ∧ cB σ' P R.1 path ∧ rs σ' 7017 0 = R.2.1 ∧ (R.2.1 = 0 → rs σ' 9002 0 = rs σ 9002 0 ∧ ∀ i, 0 ≤ i → i < rs σ 9002 0 → ra σ' 9007 0 i = ra σ 9007 0 i) ∧ (∀ z : Int, z < 4 * ((path.length : Nat) : Int) → ra σ' 7012 0 z = ra σ 7012 0 z) ∧ (rs σ 6000 1 ≤ rs σ' 6000 1 ∧ ∀ i, 0 ≤ i → i < rs σ 6000 1 * 8 → ¬ i = me * 8 + 0 → ¬ i = me * 8 + 3 → ¬ i = me * 8 + 4 → ¬ i = me * 8 + 5 → ra σ' 6001 1 i = ra σ 6001 1 i) ∧
  (∃ new g' N', cT σ' g' N' (new ++ β) ∧ agr (hG s) g' (hN s) ∧ hN s ≤ N' ∧ (R.2.1 = 0 → R.2.2.1 = none → new = [] ∧ g' = hG s ∧ N' = hN s ∧ rs σ' 6000 1 = rs σ 6000 1) ∧ ∀ t, R.2.2.1 = some t → g' = hG R.1 ∧ N' = hN R.1 ∧ rep g' N' (new ++ β) (hE R.1) ∧ (∀ K : Int → Prop, (∀ m, hN s ≤ m → K m) → eclo (hG s) (hN s) β K → K x → (∀ p, p ∈ new → K p.1 ∧ K p.2) ∧ eclo (hG R.1) (hN R.1) (new ++ β) K) ∧ ∃ k l c f u sub, t = .inl (k, l, c, f, u, tN P.1 k, x, none) :: sub ∧ ra σ' 6001 1 (me * 8 + 0) = k ∧ ra σ' 6001 1 (me * 8 + 3) = l ∧ ra σ' 6001 1 (me * 8 + 4) = c ∧ ra σ' 6001 1 (me * 8 + 5) = f ∧ planS σ' (rs σ 6000 1) (tslots me (tN P.1 k).toNat) sub ∧ rs σ' 6000 1 = rs σ 6000 1 + (sub.length : Nat) ∧ rdA (sub.map arI) (tN P.1 k).toNat = some [] ∧ (∀ m : Nat, .inr m ∈ sub → m < (sM R.1).length) ∧ (expT (sM R.1) sub).length + 1 ≤ 200) ∧
  (R.2.1 = 2 → rs σ' 7004 0 = R.2.2.2.1 ∧ rs σ' 7005 0 = R.2.2.2.2.1 ∧ fT σ' 242 R.2.2.2.2.2)
def sInv (P : zP) (σ σ1 : jS) (s0 s : zS) (path β : List (Int × Int)) (me lvl : Int) : Prop :=
  aq σ σ1 ∧ cB σ1 P s path ∧ rs σ1 7017 0 = 0 ∧ cT σ1 (hG s0) (hN s0) β ∧ s.1 = s0.1 ∧ nOk s ∧ sA s0 ≤ sA s ∧ (∀ z : Int, z < 4 * ((path.length : Nat) : Int) → ra σ1 7012 0 z = ra σ 7012 0 z) ∧ (rs σ1 6000 1 = rs σ 6000 1 ∧ ∀ i, 0 ≤ i → i < rs σ 6000 1 * 8 → ¬ i = me * 8 + 0 → ¬ i = me * 8 + 3 → ¬ i = me * 8 + 4 → ¬ i = me * 8 + 5 → ra σ1 6001 1 i = ra σ 6001 1 i) ∧ ra σ1 6001 1 (me * 8 + 3) = lvl ∧ (rs σ1 9002 0 = rs σ 9002 0 ∧ ∀ i, 0 ≤ i → i < rs σ 9002 0 → ra σ1 9007 0 i = ra σ 9007 0 i)
section ZTh
variable {n : Nat} {σ σ1 : jS} {P : zP} {s0 s : zS} {path β : List (Int × Int)} {x me lvl cds : Int} {ask : Int → zS → Int → zS × zQ} {R : zS × zQ}
theorem sInv_end (h : sInv P σ σ1 s0 s path β me lvl) : sPost P σ σ1 s0 path β x me (s, 0, none, noQ) := by
  obtain ⟨a1, a2, a3, a4, a5, a6, a7, a8, ⟨a9, a10⟩, a11, a12⟩ := h
  exact ⟨a1, a2, a3, fun _ => a12, a8, ⟨by omega, a10⟩, ⟨[], hG s0, hN s0, a4, agr.rf _ _, Int.le_refl _, fun _ _ => ⟨rfl, rfl, rfl, a9⟩, fun t ht => (by cases ht)⟩, fun w => absurd w (by show ¬ (0 : Int) = 2; decide)⟩
theorem bse_nil {b : Int} (hb : bse b (fun k => k ∈ ([] : List Int))) : b = 0 := by
  refine tb_ext hb.1 ⟨by decide, by decide⟩ (fun k k0 k1 => ?_)
  rw [tb_0]
  exact Bool.eq_false_iff.mpr (fun w => by cases (hb.2 k k0 k1).mp w)
theorem bse_mem {b k : Int} {C : List Int} (hb : bse b (fun k => k ∈ C)) (h : k ∈ C) (k0 : 0 ≤ k) (k1 : k < 32) : ¬ b = 0 := fun e => by
  have := (hb.2 k k0 k1).mpr h
  rw [e, tb_0] at this
  cases this
set_option maxRecDepth 8000 in
theorem c_seekAt37 {Q : Int → jS → Prop} (hn : 13 ≤ n) (hask : ∀ k, 0 ≤ k → k < tG P.1 → askC P (n - 1 - 1 - 1) (ask k) (path ++ [(k, x)])) (hR : ∀ k s y, gok s → 0 ≤ y → y < hN s → askR s (ask k s y) 0 0 0) (hT : tok P.1) (hd : path.length < 20) (hg0 : gok s0) (hr0 : rep (hG s0) (hN s0) β (hE s0)) (x0 : 0 ≤ x) (x1 : x < hN s0) (hxl : (ex (hG s0) (hN s0) β x).length ≤ 100) (m0 : 0 ≤ me) (m1 : me < rs σ 6000 1) (hpath : ∀ p, p ∈ path → 0 ≤ p.2 ∧ p.2 < hN s0) (hsv : rs σ 9002 0 ≤ 2 * (100 * ((path.length : Nat) : Int) + zu (hG s0) (hN s0))) (hbN : hN s0 + 120 ≤ 12 + 120 * sA s0) (hbz : (zu (hG s0) (hN s0) : Int) + 52 ≤ 12 + 52 * sA s0)
    (hq : ∀ v σ', sPost P σ σ' s0 path β x me R → (v = match R.2.2.1 with
      | none => 0
      | some t => ((expT (sM R.1) t).length : Int)) → Q v σ')
    (hq2 : ∀ s σ', sInv P σ σ' s0 s path β me lvl → R = (s, 0, none, noQ) → Q 0 σ') :
    ∀ (m i : Nat) (C : List Int) (s : zS) (f left : Int) (σ1 : jS), i + m = 24 → spRounds P ask path x lvl cds m C s f = R → sInv P σ σ1 s0 s path β me lvl → ra σ1 6001 1 (me * 8 + 4) = cds → ra σ1 6001 1 (me * 8 + 5) = f → 0 ≤ f → bse left (fun k => k ∈ C) → (∃ r, C = (zrg (tG P.1)).filter r) → (∀ k, k ∈ C → ∃ ρ, solE (hG s0) (hN s0) (hE s0) ρ ∧ ∃ θ : Int → List Int, (∀ v, Typ (θ v)) ∧ sbt θ (tR P.1 k 0) = ρ x) → pot s + (C.length : Nat) ≤ 200 → f + (C.length : Nat) ≤ 900 → J n c_Search_seekAt (some .int) 37 [some (jo 7 0), none, some (ji x), some (ji (path.length : Nat)), some (ji me), some (ji left), some (ji (i : Nat)), none, none] [] σ1 (qI Q) := by
  have hG24 := hT.2.2.2.1
  intro m
  induction m with
  | zero =>
    intro i C s f left σ1 hi hRR hI h4 h5 f0 hb hC hcan hp hf
    refine wp_Search_seekAt_37 ?_
    rw [if_pos (by omega)]
    exact hq2 s σ1 hI hRR.symm
  | succ m ih =>
    intro i C s f left σ1 hi hRR hI h4 h5 f0 hb hC hcan hp hf
    have hI0 := hI
    obtain ⟨a1, a2, a3, a4, a5, a6, a7, a8, ⟨a9, a10⟩, a11, a12⟩ := hI
    refine wp_Search_seekAt_37 ?_
    rw [if_neg (by omega)]
    unfold spRounds at hRR
    by_cases qC : C = []
    · rw [if_pos qC] at hRR
      subst qC
      rw [if_pos (bse_nil hb)]
      exact hq2 s σ1 hI0 hRR.symm
    rw [if_neg qC] at hRR
    obtain ⟨k9, hk9⟩ := List.exists_mem_of_ne_nil C qC
    have hCr : ∀ k, k ∈ C → 0 ≤ k ∧ k < tG P.1 := fun k hk => by
      obtain ⟨r, hr⟩ := hC
      rw [hr] at hk
      exact mem_zrg_iff.mp (List.mem_filter.mp hk).1
    have hk9r := hCr k9 hk9
    rw [if_neg (bse_mem hb hk9 hk9r.1 (by omega))]
    have eG : hG s = hG s0 := by unfold hG; rw [a5]
    have eN : hN s = hN s0 := by unfold hN; rw [a5]
    have eE : hE s = hE s0 := by unfold hE; rw [a5]
    obtain ⟨mg, hmg⟩ := Int.eq_ofNat_of_zero_le hT.2.2.1
    obtain ⟨-, tx, h2, h3, h4x, h5x, h6, h7, h8, h9⟩ := a2.2.2.1
    have hgs : gok s := by
      refine ⟨by rw [eG, eN]; exact hg0.1, by rw [eN]; exact hg0.2.1, by rw [eN, eE]; exact hg0.2.2.1, a6.2.1⟩
    have hbst : ∀ k, k ∈ bstL P.1 C → k ∈ C := fun k hk => (List.mem_filter.mp hk).1
    have h2l := bst_two P.1 C
    have hBR := best_R (path := path) (lvl := lvl) (cds := cds) (unt := ((C.length : Nat) - ((bstL P.1 C).length : Nat))) (x := x) hT hR hgs x0 (by rw [eN]; exact x1) (bstL P.1 C) s f none none (fun k hk => hCr k (hbst k hk)) (Int.le_refl _) a6.2.1 ⟨hgs.1, Int.le_refl _, agr.rf _ _, rfl, rfl, rfl⟩
    have hBS := fun t => best_shape (P := P) (ask := ask) (path := path) (lvl := lvl) (cds := cds) (unt := ((C.length : Nat) - ((bstL P.1 C).length : Nat))) (x := x) (bstL P.1 C) s f none none t
    rw [show rs σ1 7019 0 = tx from h3]
    refine ⟨by omega, by omega, by omega, c_bestOf (by omega) h2 a2.1 h6 hT (fun g g0 g1 => (h9 g g0 g1).2.2.2) hb (fun b' hb' => ?_)⟩
    have hbs : bse b' (fun k => k ∈ bstL P.1 C) := ⟨hb'.1, fun k k0 k1 => (hb'.2 k k0 k1).trans ⟨fun w => List.mem_filter.mpr ⟨w.2.2.1, dcd_iff.mpr (fun c hc => w.2.2.2 c (hCr c hc).1 (hCr c hc).2 hc)⟩, fun w => ⟨(hCr k (hbst k w)).1, (hCr k (hbst k w)).2, hbst k w, fun c _ _ hc => dcd_iff.mp (List.mem_filter.mp w).2 c hc⟩⟩⟩
    have hkf : ksf (bstL P.1 C) 0 mg = bstL P.1 C := by
      obtain ⟨r, hr⟩ := hC
      refine ksf_self (r := fun k => dcd (∀ c, c ∈ C → ¬ spc P.1 c k) && r k) ?_
      rw [← hmg]
      conv => lhs; unfold bstL
      conv => lhs; arg 2; rw [hr]
      rw [List.filter_filter]
    refine c_tryBest (σ := σ1) (m := mg) (Bl := bstL P.1 C) (ask := ask) (lvl := lvl) (cds := cds) (unt := ((C.length : Nat) - ((bstL P.1 C).length : Nat))) (s0 := s) (β := β) (f := f) (by omega) hask hR hT hd a2 ⟨by rw [eG, eN]; exact a4, by rw [eG, eN, eE]; exact hr0, hgs⟩ a6 a3 x0 (by rw [eN]; exact x1) (by rw [eG, eN]; exact hxl) m0 (by omega) (by rw [eN]; exact hpath) (by rw [eG, eN, a12.1]; exact hsv) (by rw [eN]; omega) (by rw [eG, eN]; omega) hmg.symm hbs hkf (by rw [eG, eN, eE]; exact fun k hk => hcan k (hbst k hk)) (by omega) (by omega) f0 h5 (fun v σ2 hpo hv => ?_)
    generalize hBB : spBest P ask path x lvl cds ((C.length : Nat) - ((bstL P.1 C).length : Nat)) (bstL P.1 C) s f none none = B at hRR hBR hBS hpo hv
    obtain ⟨r1, r2, r3, r4, r5, r6⟩ := hBR
    obtain ⟨b1, b2, b3, b4, b5, ⟨b6, b6b⟩, b7, ⟨nw, g', N', c1, c2, c3, c4, c5⟩, b9⟩ := hpo
    rw [eG, eN] at c2 c4
    rw [eN] at c3
    have s12 : ∀ z : Int, z < 4 * ((path.length : Nat) : Int) → ra σ2 7012 0 z = ra σ 7012 0 z := fun z hz => by rw [b5 z hz]; exact a8 z hz
    have s60 : ∀ i, 0 ≤ i → i < rs σ 6000 1 * 8 → ¬ i = me * 8 + 0 → ¬ i = me * 8 + 3 → ¬ i = me * 8 + 4 → ¬ i = me * 8 + 5 → ra σ2 6001 1 i = ra σ 6001 1 i := fun z z0 z1 z2 z3 z4 z5 => by rw [b6b z z0 (by omega) z2 z5]; exact a10 z z0 z1 z2 z3 z4 z5
    have s3 : ra σ2 6001 1 (me * 8 + 3) = lvl := by rw [b6b _ (by omega) (by omega) (by omega) (by omega)]; exact a11
    have s4 : ra σ2 6001 1 (me * 8 + 4) = cds := by rw [b6b _ (by omega) (by omega) (by omega) (by omega)]; exact h4
    have s9 : B.2.1.1 = 0 → rs σ2 9002 0 = rs σ 9002 0 ∧ ∀ i, 0 ≤ i → i < rs σ 9002 0 → ra σ2 9007 0 i = ra σ 9007 0 i := fun w => by
      obtain ⟨e1, e2⟩ := b4 w
      exact ⟨by rw [e1]; exact a12.1, fun z z0 z1 => by rw [e2 z z0 (by rw [a12.1]; exact z1)]; exact a12.2 z z0 z1⟩
    cases et : B.2.1.2.1 with
    | some t =>
      rw [et] at hRR hv
      have hv1 : v = ((expT (sM B.1) t).length : Int) := hv
      have q0 : B.2.1.1 = 0 := Classical.byContradiction (fun w => by have := r3 w; rw [et] at this; cases this)
      obtain ⟨d1, d2, d3, d4, z, sub, d5, d6, d7, d8, d9, d10, d11⟩ := c5 t et
      obtain ⟨k, sub2, k0, e5⟩ := hBS t et q0 (fun k hk => hCr k (hbst k hk)) (fun o ho => by cases ho)
      rw [e5] at d5
      have ez : (k, lvl, cds, B.2.2, ((C.length : Nat) - ((bstL P.1 C).length : Nat) : Int), tN P.1 k, x, none) = z := by
        have := List.cons.inj d5
        exact Sum.inl.inj this.1
      have es : sub2 = sub := (List.cons.inj d5).2
      subst es
      subst ez
      have hvp : 0 < v := by
        rw [hv1, e5, expT_inl, List.length_cons]
        omega
      rw [if_pos (by omega)]
      rw [eG, eN] at d4
      refine hq v σ2 ?_ (by rw [← hRR]; show v = match B.2.1.2.1 with | none => 0 | some t => ((expT (sM B.1) t).length : Int); rw [et]; exact hv1)
      rw [← hRR]
      refine ⟨a1.tr b1, b2, b3, s9, s12, ⟨by omega, s60⟩, ⟨nw, g', N', c1, c2, c3, fun _ w => ?_, fun t' ht' => ?_⟩, fun w => absurd w (by show ¬ B.2.1.1 = 2; omega)⟩
      · have w2 : B.2.1.2.1 = none := w
        rw [et] at w2; cases w2
      · have et2 : t = t' := by
          have w2 : B.2.1.2.1 = some t' := ht'
          rw [et] at w2
          cases w2; rfl
        subst et2
        rw [a9] at d7 d8
        exact ⟨d1, d2, d3, d4, k, lvl, cds, B.2.2, _, sub2, e5, d6, s3, s4, b7 q0, d7, d8, d9, d10, d11⟩
    | none =>
      rw [et] at hRR hv
      have hv0 : v = 0 := hv
      rw [if_neg (fun w => w hv0)]
      by_cases qs : B.2.1.1 = 0
      · have hRR2 : spRounds P ask path x lvl cds m (C.filter (fun k => !(bstL P.1 C).contains k)) B.1 B.2.2 = R := by
          have := hRR
          dsimp only at this
          rw [if_neg (fun w => w qs)] at this
          exact this
        rw [if_pos (by rw [b3]; exact qs)]
        refine ⟨⟨by omega, by omega⟩, ?_⟩
        rw [show ((i : Nat) : Int) + 1 = ((i + 1 : Nat) : Int) by omega]
        obtain ⟨u1, u2, u3, u4⟩ := c4 qs et
        subst u1
        rw [u2, u3] at c1
        have hpo := r1.2.2.2.2.2.2.1
        refine ih (i + 1) _ B.1 B.2.2 _ σ2 (by omega) hRR2 ⟨a1.tr b1, b2, by rw [b3]; exact qs, c1, by rw [r6 qs et]; exact a5, a6.gon r1 (by omega), by have := r1.1; omega, s12, ⟨by omega, s60⟩, s3, s9 qs⟩ s4 (b7 qs) (by omega) ⟨i32_bAnd _ _, fun k k0 k1 => ?_⟩ ?_ (fun k hk => hcan k (List.mem_filter.mp hk).1) (by omega) (by omega)
        · show tb (bAnd left (bXor b' (-1))) k = true ↔ k ∈ C.filter (fun k => !(bstL P.1 C).contains k)
          rw [tb_and, tb_xor, tb_m1 k1, List.mem_filter]
          have e1 : tb left k = true ↔ k ∈ C := hb.2 k k0 k1
          have e2 : tb b' k = true ↔ k ∈ bstL P.1 C := hbs.2 k k0 k1
          rw [← List.contains_iff_mem] at e2
          have e3 : tb b' k = (bstL P.1 C).contains k := Bool.eq_iff_iff.mpr e2
          rw [e3, Bool.and_eq_true, e1, Bool.xor_true]
        · obtain ⟨r, hr⟩ := hC
          refine ⟨fun k => (!(bstL P.1 C).contains k) && r k, ?_⟩
          conv => lhs; arg 2; rw [hr]
          rw [List.filter_filter]
      · have hRR2 : (B.1, B.2.1) = R := by
          have := hRR
          dsimp only at this
          rw [if_pos qs] at this
          exact this
        rw [if_neg (by rw [b3]; exact qs)]
        refine hq v σ2 ?_ (by rw [← hRR2]; show v = match B.2.1.2.1 with | none => 0 | some t => ((expT (sM B.1) t).length : Int); rw [et]; exact hv0)
        rw [← hRR2]
        refine ⟨a1.tr b1, b2, b3, fun w => absurd w qs, s12, ⟨by omega, s60⟩, ⟨nw, g', N', c1, c2, c3, fun w => absurd w qs, fun t' ht' => ?_⟩, b9⟩
        have w2 : B.2.1.2.1 = some t' := ht'
        rw [et] at w2; cases w2
end ZTh
