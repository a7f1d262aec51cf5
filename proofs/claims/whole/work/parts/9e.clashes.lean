/-! How many pairs of given ones clash. -/
noncomputable def clP (T : zT) (O i j : Int) : Int := if tH T i = tH T j ∧ ¬ tb O i = true ∧ ¬ tb O j = true ∧ 3 ≤ spV T i j then 1 else 0
noncomputable def clV (T : zT) (O : Int) : Int := smZ (fun i => smZ (fun j => clP T O i j) i.toNat) (tG T).toNat
theorem smZ_add {f g : Int → Int} : ∀ n : Nat, smZ (fun k => f k + g k) n = smZ f n + smZ g n := by
  intro n
  induction n with
  | zero => rfl
  | succ n ih =>
    show smZ (fun k => f k + g k) n + (f ((n : Nat) : Int) + g ((n : Nat) : Int)) = (smZ f n + f ((n : Nat) : Int)) + (smZ g n + g ((n : Nat) : Int))
    rw [ih]
    omega
theorem smZ_0 : ∀ n : Nat, smZ (fun _ => 0) n = 0 := by
  intro n
  induction n with
  | zero => rfl
  | succ n ih => show smZ (fun _ => 0) n + 0 = 0; rw [ih]; rfl
/-- pairs counted by the one or by the other -/
theorem smZ_tri {c : Int → Int → Int} : ∀ n : Nat, (∀ i j : Nat, i < n → j < n → c ((i : Nat) : Int) ((j : Nat) : Int) = c ((j : Nat) : Int) ((i : Nat) : Int)) → smZ (fun i => smZ (fun j => if i < j then c i j else 0) n) n = smZ (fun i => smZ (fun j => c i j) i.toNat) n := by
  intro n
  induction n with
  | zero => intro _; rfl
  | succ n ih =>
    intro hc
    have ih := ih (fun i j hi hj => hc i j (by omega) (by omega))
    show smZ (fun i => smZ (fun j => if i < j then c i j else 0) (n + 1)) n + smZ (fun j => if ((n : Nat) : Int) < j then c ((n : Nat) : Int) j else 0) (n + 1) = smZ (fun i => smZ (fun j => c i j) i.toNat) n + smZ (fun j => c ((n : Nat) : Int) j) ((n : Nat) : Int).toNat
    have e1 : smZ (fun j => if ((n : Nat) : Int) < j then c ((n : Nat) : Int) j else 0) (n + 1) = 0 := by
      rw [smZ_cg (g := fun _ => 0) (fun k hk => if_neg (by omega)), smZ_0]
    have e2 : smZ (fun i => smZ (fun j => if i < j then c i j else 0) (n + 1)) n = smZ (fun i => smZ (fun j => if i < j then c i j else 0) n + c i ((n : Nat) : Int)) n := smZ_cg (fun k hk => by
      show smZ _ n + (if ((k : Nat) : Int) < ((n : Nat) : Int) then c ((k : Nat) : Int) ((n : Nat) : Int) else 0) = _
      rw [if_pos (by omega)])
    rw [e1, e2, smZ_add (f := fun i => smZ (fun j => if i < j then c i j else 0) n) (g := fun i => c i ((n : Nat) : Int)), ih, Int.toNat_natCast]
    rw [smZ_cg (f := fun i => c i ((n : Nat) : Int)) (g := fun j => c ((n : Nat) : Int) j) (fun k hk => hc k n (by omega) (by omega))]
    omega
section ZCl
variable {n : Nat} {σ0 σ σ1 : jS} {T : zT} {M : zM} {r r1 r2 : List Int} {sh : Bool} {g : zH} {N : Int} {i j O : Int}
/-- two types that share no letter: what it is to become one -/
theorem twP_iff (h1 : rwk r1) (h2 : rwk r2) : twP false r1 r2 ↔ ∃ θ η : Int → List Int, (∀ v, Typ (θ v)) ∧ (∀ v, Typ (η v)) ∧ sbt θ r1 = sbt η r2 := by
  have lk1 := lA_lok h1
  have rt1 := lay_root (g := gz0) (N := 0) (vs := fun _ => -1) (r := r1) lk1 h1.1
  have lk2 : lok (lA r1).1 (lA r1).2.1 (fun _ => -1) r2 (lB false r1 r2).1 (lB false r1 r2).2.1 (lB false r1 r2).2.2.1 (lB false r1 r2).2.2.2 := lok_all lk1.2.2.2.1 lk1.1 (fun _ => Or.inl rfl) h2.1 h2.2.1
  have o := (s00_ok (M := []) lk1 h1).1
  have rep1 : rep (lA r1).1 (lA r1).2.1 [] [] := o
  have hu := lay_uni (E := []) (x := xA r1) lk2 h2.1 lk1.2.2.2.1 (fun p hp => by cases hp) rt1.1 rt1.2.1
  have e0 : twP false r1 r2 ↔ ∃ ρ, solE (layR r2 (lA r1).1 (lA r1).2.1 (fun _ => -1)).1 (layR r2 (lA r1).1 (lA r1).2.1 (fun _ => -1)).2.1 [] ρ ∧ ρ ((layR r2 (lA r1).1 (lA r1).2.1 (fun _ => -1)).2.2.2.headD 0) = ρ (xA r1) := by
    constructor
    · rintro ⟨ρ, w1, w2⟩
      exact ⟨ρ, ⟨w1, fun p hp => by cases hp⟩, w2.symm⟩
    · rintro ⟨ρ, ⟨w1, -⟩, w2⟩
      exact ⟨ρ, w1, w2.symm⟩
  rw [e0, hu]
  constructor
  · rintro ⟨ρ, ⟨w1, -⟩, θ, w2, w3⟩
    refine ⟨fun t => if t ∈ r1 ∧ t < 0 then ρ ((lA r1).2.2.1 (-1 - t)) else [0], θ, fun v => ?_, w2, ?_⟩
    · show Typ (if v ∈ r1 ∧ v < 0 then ρ ((lA r1).2.2.1 (-1 - v)) else [0])
      by_cases w : v ∈ r1 ∧ v < 0
      · rw [if_pos w]
        have := (lk1.2.2.2.2.1 (-1 - v)).resolve_left (lk1.2.2.2.2.2.2.2.1 v w.1 w.2)
        exact (w1 _ this.1 this.2.1).1
      · rw [if_neg w]; exact Typ_0
    · rw [w3]
      have := rt1.2.2.1 ρ w1
      show _ = ρ ((lA r1).2.2.2.headD 0)
      refine Eq.trans ?_ this.symm
      exact sbt_ext (fun t ht hn => if_pos ⟨ht, hn⟩)
  · rintro ⟨θ, η, w1, w2, w3⟩
    obtain ⟨ρ, s1, -, s3⟩ := lk1.2.2.2.2.2.2.2.2.2.2.2.2.1 (fun _ => [0]) (fun v => θ (-1 - v)) (fun n n0 n1 => absurd n1 (by omega)) (fun v => w1 _) (fun v hv => absurd rfl hv)
    refine ⟨ρ, ⟨s1, fun p hp => by cases hp⟩, η, w2, ?_⟩
    rw [← w3]
    have := rt1.2.2.1 ρ s1
    show _ = ρ ((lA r1).2.2.2.headD 0)
    refine Eq.trans ?_ this.symm
    refine sbt_ext (fun t ht hn => ?_)
    have e := s3 (-1 - t) (lk1.2.2.2.2.2.2.2.1 t ht hn)
    rw [show -1 - (-1 - t) = t by omega] at e
    exact e.symm
theorem twP_sy (h1 : rwk r1) (h2 : rwk r2) (h : twP false r1 r2) : twP false r2 r1 := by
  obtain ⟨θ, η, w1, w2, w3⟩ := (twP_iff h1 h2).mp h
  exact (twP_iff h2 h1).mpr ⟨η, θ, w2, w1, w3.symm⟩
theorem spV_big (hT : tok T) (hin : (0 ≤ i ∧ i < tG T) ∧ 0 ≤ j ∧ j < tG T) : 3 ≤ spV T i j ↔ ¬ spc T i j ∧ ¬ spc T j i ∧ (becm (tR T j 0) (tR T i 0) ∨ twP false (tR T i 0) (tR T j 0)) := by
  by_cases h1 : spc T i j
  · rw [spV_1 hin h1]
    exact ⟨fun w => by omega, fun w => absurd h1 w.1⟩
  by_cases h2 : spc T j i
  · rw [spV_2 hin h1 h2]
    exact ⟨fun w => by omega, fun w => absurd h2 w.2.1⟩
  by_cases h3 : becm (tR T j 0) (tR T i 0)
  · rw [spV_3 hin h1 h2 h3]
    exact ⟨fun _ => ⟨h1, h2, Or.inl h3⟩, fun _ => by omega⟩
  by_cases h4 : twP false (tR T i 0) (tR T j 0)
  · rw [spV_4 hin h1 h2 h3 h4]
    exact ⟨fun _ => ⟨h1, h2, Or.inr h4⟩, fun _ => by omega⟩
  · rw [spV_0 hin h1 h2 h3 h4]
    exact ⟨fun w => by omega, fun w => absurd w.2.2 (fun w => w.elim h3 h4)⟩
theorem spV_sy (hT : tok T) (hin : (0 ≤ i ∧ i < tG T) ∧ 0 ≤ j ∧ j < tG T) (h : 3 ≤ spV T i j) : 3 ≤ spV T j i := by
  rw [spV_big hT hin] at h
  rw [spV_big hT ⟨hin.2, hin.1⟩]
  obtain ⟨a1, a2, a3⟩ := h
  refine ⟨a2, a1, ?_⟩
  rcases a3 with w | w
  · refine Or.inl ?_
    exact Classical.byContradiction (fun q => a1 ⟨w, q⟩)
  · exact Or.inr (twP_sy (tok_rw hT hin.1.1 hin.1.2) (tok_rw hT hin.2.1 hin.2.2) w)
theorem clP_sy (hT : tok T) (hin : (0 ≤ i ∧ i < tG T) ∧ 0 ≤ j ∧ j < tG T) : clP T O i j = clP T O j i := by
  unfold clP
  by_cases q : tH T i = tH T j ∧ ¬ tb O i = true ∧ ¬ tb O j = true ∧ 3 ≤ spV T i j
  · rw [if_pos q, if_pos ⟨q.1.symm, q.2.2.1, q.2.1, spV_sy hT hin q.2.2.2⟩]
  · rw [if_neg q, if_neg (fun w => q ⟨w.1.symm, w.2.2.1, w.2.1, spV_sy hT ⟨hin.2, hin.1⟩ w.2.2.2⟩)]
theorem clP_rng (T : zT) (O i j : Int) : 0 ≤ clP T O i j ∧ clP T O i j ≤ 1 := by
  unfold clP
  split <;> omega
theorem clV_alt (hT : tok T) : clV T O = smZ (fun i => smZ (fun j => if i < j then clP T O i j else 0) (tG T).toNat) (tG T).toNat := by
  unfold clV
  exact (smZ_tri (c := clP T O) (tG T).toNat (fun i j hi hj => clP_sy hT ⟨by omega, by omega⟩)).symm
set_option maxRecDepth 8000 in
theorem c_clashes {Q : Int → jS → Prop} (hn : 9 ≤ n) (hZ : cZ σ T M) (hO : rs σ 12009 0 = O) (hq : ∀ σ', cq twF σ σ' → cZ σ' T M → Q (clV T O) σ') : TrI n i_Top_clashes [jo 12 0] σ Q := by
  have hT := hZ.2.2.1.1
  have hG := hT.2.2.2.1
  have hG0 := hT.2.2.1
  have inner : ∀ (d i j : Nat) (a : Int) (s2 : jS), ((j : Nat) : Int) + ((d : Nat) : Int) = tG T → ((i : Nat) : Int) < tG T → i < j → 0 ≤ a → a ≤ 1000 → cq twF σ s2 → cZ s2 T M → (∀ s3, cq twF σ s3 → cZ s3 T M → J n c_Top_clashes (some .int) 4 [some (jo 12 0), some (ji (a + smZ (fun j => if ((i : Nat) : Int) < j then clP T O ((i : Nat) : Int) j else 0) (tG T).toNat)), some (ji (((i : Nat) : Int) + 1)), none, none] [] s3 (qI Q)) → J n c_Top_clashes (some .int) 19 [some (jo 12 0), some (ji (a + smZ (fun j => if ((i : Nat) : Int) < j then clP T O ((i : Nat) : Int) j else 0) j)), some (ji ((i : Nat) : Int)), some (ji ((j : Nat) : Int)), none] [] s2 (qI Q) := by
    intro d
    induction d with
    | zero =>
      intro i j a s2 hj hi hij a0 a1 e2 Z2 hnx
      obtain ⟨z1, z2, ⟨p1, tx, p2, p3, p4, p5, p6, p7, p8, p9⟩, z4, z5, z6, z7⟩ := Z2
      refine wp_Top_clashes_19 ⟨by omega, by omega, ?_⟩
      rw [p4, p6, if_pos (by omega)]
      have := hnx s2 e2 ⟨z1, z2, ⟨p1, tx, p2, p3, p4, p5, p6, p7, p8, p9⟩, z4, z5, z6, z7⟩
      rw [show (tG T).toNat = j by omega] at this
      exact ⟨⟨by omega, by omega⟩, this⟩
    | succ d ih =>
      intro i j a s2 hj hi hij a0 a1 e2 Z2 hnx
      have Z20 := Z2
      obtain ⟨z1, z2, ⟨p1, tx, p2, p3, p4, p5, p6, p7, p8, p9⟩, z4, z5, z6, z7⟩ := Z2
      have l5 : rl s2 10005 tx = 24 := by rcases p2 with w | w <;> rw [w]; exact cln_at z1 10005 0 24 (by decide); exact cln_at z1 10005 1 24 (by decide)
      have O2 : rs s2 12009 0 = O := by rw [e2.nrs 12009 0 (by decide) (by decide)]; exact hO
      have sr := smZ_rng (f := fun j => if ((i : Nat) : Int) < j then clP T O ((i : Nat) : Int) j else 0) (b := 1) (n := j) (fun k hk => by
        have := clP_rng T O ((i : Nat) : Int) ((k : Nat) : Int)
        split <;> omega)
      have e1 : smZ (fun j => if ((i : Nat) : Int) < j then clP T O ((i : Nat) : Int) j else 0) (j + 1) = smZ (fun j => if ((i : Nat) : Int) < j then clP T O ((i : Nat) : Int) j else 0) j + clP T O ((i : Nat) : Int) ((j : Nat) : Int) := by
        show _ + (if ((i : Nat) : Int) < ((j : Nat) : Int) then clP T O ((i : Nat) : Int) ((j : Nat) : Int) else 0) = _
        rw [if_pos (by omega)]
      have nx0 : ¬ (tH T ((i : Nat) : Int) = tH T ((j : Nat) : Int) ∧ ¬ tb O ((i : Nat) : Int) = true ∧ ¬ tb O ((j : Nat) : Int) = true ∧ 3 ≤ spV T ((i : Nat) : Int) ((j : Nat) : Int)) → ∀ s3, cq twF σ s3 → cZ s3 T M → J n c_Top_clashes (some .int) 19 [some (jo 12 0), some (ji (a + smZ (fun j => if ((i : Nat) : Int) < j then clP T O ((i : Nat) : Int) j else 0) j)), some (ji ((i : Nat) : Int)), some (ji (((j : Nat) : Int) + 1)), none] [] s3 (qI Q) := by
        intro w s3 e3 Z3
        have := ih i (j + 1) a s3 (by omega) hi (by omega) a0 a1 e3 Z3 hnx
        rw [e1, show clP T O ((i : Nat) : Int) ((j : Nat) : Int) = 0 from if_neg w, Int.add_zero] at this
        exact this
      refine wp_Top_clashes_19 ⟨by omega, by omega, ?_⟩
      rw [p4, p6, if_neg (by omega), l5, (p9 ((i : Nat) : Int) (by omega) (by omega)).1, (p9 ((j : Nat) : Int) (by omega) (by omega)).1]
      refine ⟨by omega, by omega, by omega, by omega, by omega, ?_⟩
      by_cases qh : tH T ((i : Nat) : Int) = tH T ((j : Nat) : Int)
      · rw [if_neg (fun w => w qh), O2]
        refine ⟨by omega, c_isIn (by omega) (by omega) ?_⟩
        unfold has1
        by_cases qa : tb O ((i : Nat) : Int) = true
        · rw [if_pos qa, if_pos (by decide)]
          exact wp_Top_clashes_77 ⟨⟨by omega, by omega⟩, nx0 (fun w => w.2.1 qa) s2 e2 Z20⟩
        rw [if_neg qa, if_neg (by decide), O2]
        refine c_isIn (by omega) (by omega) ?_
        unfold has1
        by_cases qb : tb O ((j : Nat) : Int) = true
        · rw [if_pos qb, if_pos (by decide)]
          exact wp_Top_clashes_77 ⟨⟨by omega, by omega⟩, nx0 (fun w => w.2.2.1 qb) s2 e2 Z20⟩
        rw [if_neg qb, if_neg (by decide)]
        refine c_special (by omega) Z20 (fun s3 e3 Z3 => ?_)
        by_cases q3 : spV T ((i : Nat) : Int) ((j : Nat) : Int) < 3
        · rw [if_pos q3]
          exact ⟨⟨by omega, by omega⟩, nx0 (fun w => by omega) s3 (e2.tr e3) Z3⟩
        · rw [if_neg q3]
          refine ⟨⟨by omega, by omega⟩, ⟨by omega, by omega⟩, ?_⟩
          have := ih i (j + 1) a s3 (by omega) hi (by omega) a0 a1 (e2.tr e3) Z3 hnx
          rw [e1, show clP T O ((i : Nat) : Int) ((j : Nat) : Int) = 1 from if_pos ⟨qh, qa, qb, by omega⟩, ← Int.add_assoc] at this
          exact this
      · rw [if_pos qh]
        exact wp_Top_clashes_77 ⟨⟨by omega, by omega⟩, nx0 (fun w => qh w.1) s2 e2 Z20⟩
  have rowr : ∀ i : Nat, 0 ≤ smZ (fun j => if ((i : Nat) : Int) < j then clP T O ((i : Nat) : Int) j else 0) (tG T).toNat ∧ smZ (fun j => if ((i : Nat) : Int) < j then clP T O ((i : Nat) : Int) j else 0) (tG T).toNat ≤ 24 := fun i => by
    have := smZ_rng (f := fun j => if ((i : Nat) : Int) < j then clP T O ((i : Nat) : Int) j else 0) (b := 1) (n := (tG T).toNat) (fun k hk => by
      have := clP_rng T O ((i : Nat) : Int) ((k : Nat) : Int)
      split <;> omega)
    omega
  have outer : ∀ (d i : Nat) (s2 : jS), ((i : Nat) : Int) + ((d : Nat) : Int) = tG T → cq twF σ s2 → cZ s2 T M → J n c_Top_clashes (some .int) 4 [some (jo 12 0), some (ji (smZ (fun i => smZ (fun j => if i < j then clP T O i j else 0) (tG T).toNat) i)), some (ji ((i : Nat) : Int)), none, none] [] s2 (qI Q) := by
    intro d
    induction d with
    | zero =>
      intro i s2 hi e2 Z2
      have Z20 := Z2
      obtain ⟨z1, z2, ⟨p1, tx, p2, p3, p4, p5, p6, p7, p8, p9⟩, z4, z5, z6, z7⟩ := Z2
      refine wp_Top_clashes_4 ⟨by omega, by omega, ?_⟩
      rw [p4, p6, if_pos (by omega)]
      have := hq s2 e2 Z20
      rw [clV_alt hT] at this
      rw [show smZ (fun i => smZ (fun j => if i < j then clP T O i j else 0) (tG T).toNat) i = smZ (fun i => smZ (fun j => if i < j then clP T O i j else 0) (tG T).toNat) (tG T).toNat by rw [show (tG T).toNat = i by omega]]
      exact this
    | succ d ih =>
      intro i s2 hi e2 Z2
      have Z20 := Z2
      obtain ⟨z1, z2, ⟨p1, tx, p2, p3, p4, p5, p6, p7, p8, p9⟩, z4, z5, z6, z7⟩ := Z2
      refine wp_Top_clashes_4 ⟨by omega, by omega, ?_⟩
      rw [p4, p6, if_neg (by omega)]
      have sr := smZ_rng (f := fun i => smZ (fun j => if i < j then clP T O i j else 0) (tG T).toNat) (b := 24) (n := i) (fun k hk => rowr k)
      have hin0 : smZ (fun j => if ((i : Nat) : Int) < j then clP T O ((i : Nat) : Int) j else 0) (i + 1) = 0 := by
        rw [smZ_cg (g := fun _ => 0) (fun k hk => if_neg (by omega)), smZ_0]
      have := inner d i (i + 1) (smZ (fun i => smZ (fun j => if i < j then clP T O i j else 0) (tG T).toNat) i) s2 (by omega) (by omega) (by omega) (by omega) (by omega) e2 Z20 (fun s3 e3 Z3 => ih (i + 1) s3 (by omega) e3 Z3)
      rw [hin0, Int.add_zero] at this
      exact ⟨⟨by omega, by omega⟩, this⟩
  exact wp_Top_clashes (outer (tG T).toNat 0 σ (by omega) (cq.rf _ σ) hZ)
set_option maxRecDepth 8000 in
theorem t_clashes {Q : Int → jS → Prop} (hn : 6 ≤ n) (hm : mln σ) (hX : mTx σ T) (hO : rs σ 1015 0 = O) (hq : ∀ σ', sq hpF σ σ' → Q (clV T O) σ') : TrI n i_Model_clashes [jo 1 0] σ Q := by
  have hT := hX.1
  have hG := hT.2.2.2.1
  have hG0 := hT.2.2.1
  have inner : ∀ (d i j : Nat) (a : Int) (s2 : jS), j + d = i → ((i : Nat) : Int) < tG T → 0 ≤ a → a ≤ 1000 → sq hpF σ s2 → (∀ s3, sq hpF σ s3 → J n c_Model_clashes (some .int) 4 [some (jo 1 0), some (ji (a + smZ (fun j => clP T O ((i : Nat) : Int) j) i)), some (ji (((i : Nat) : Int) + 1)), none] [] s3 (qI Q)) → J n c_Model_clashes (some .int) 14 [some (jo 1 0), some (ji (a + smZ (fun j => clP T O ((i : Nat) : Int) j) j)), some (ji ((i : Nat) : Int)), some (ji ((j : Nat) : Int))] [] s2 (qI Q) := by
    intro d
    induction d with
    | zero =>
      intro i j a s2 hj hi a0 a1 e2 hnx
      refine wp_Model_clashes_14 ?_
      rw [if_pos (by omega)]
      have := hnx s2 e2
      rw [show i = j by omega] at this ⊢
      exact ⟨⟨by omega, by omega⟩, this⟩
    | succ d ih =>
      intro i j a s2 hj hi a0 a1 e2 hnx
      have m2 := hm.sq e2
      have X2 : mTx s2 T := hX.sq e2 (by decide)
      have l9 := mln_at m2 1009 24 (by decide)
      have O2 : rs s2 1015 0 = O := by rw [e2.nrs 1015 0 (by decide)]; exact hO
      have sr := smZ_rng (f := fun j => clP T O ((i : Nat) : Int) j) (b := 1) (n := j) (fun k hk => clP_rng T O _ _)
      have e1 : smZ (fun j => clP T O ((i : Nat) : Int) j) (j + 1) = smZ (fun j => clP T O ((i : Nat) : Int) j) j + clP T O ((i : Nat) : Int) ((j : Nat) : Int) := rfl
      have nx0 : ¬ (tH T ((i : Nat) : Int) = tH T ((j : Nat) : Int) ∧ ¬ tb O ((i : Nat) : Int) = true ∧ ¬ tb O ((j : Nat) : Int) = true ∧ 3 ≤ spV T ((i : Nat) : Int) ((j : Nat) : Int)) → ∀ s3, sq hpF σ s3 → i32 (((j : Nat) : Int) + 1) ∧ J n c_Model_clashes (some .int) 14 [some (jo 1 0), some (ji (a + smZ (fun j => clP T O ((i : Nat) : Int) j) j)), some (ji ((i : Nat) : Int)), some (ji (((j : Nat) : Int) + 1))] [] s3 (qI Q) := by
        intro w s3 e3
        have := ih i (j + 1) a s3 (by omega) hi a0 a1 e3 hnx
        rw [e1, show clP T O ((i : Nat) : Int) ((j : Nat) : Int) = 0 from if_neg w, Int.add_zero] at this
        exact ⟨⟨by omega, by omega⟩, this⟩
      refine wp_Model_clashes_14 ?_
      rw [if_neg (by omega), l9, (X2.2.2.2.2.1 ((i : Nat) : Int) (by omega) (by omega)).1, (X2.2.2.2.2.1 ((j : Nat) : Int) (by omega) (by omega)).1]
      refine ⟨by omega, by omega, by omega, by omega, by omega, by omega, ?_⟩
      by_cases qh : tH T ((i : Nat) : Int) = tH T ((j : Nat) : Int)
      · rw [if_neg (fun w => w qh), O2]
        refine ⟨by omega, t_has (by omega) (by omega) ?_⟩
        unfold has1
        by_cases qa : tb O ((i : Nat) : Int) = true
        · rw [if_pos qa, if_pos (by decide)]
          exact nx0 (fun w => w.2.1 qa) s2 e2
        rw [if_neg qa, if_neg (by decide), O2]
        refine t_has (by omega) (by omega) ?_
        unfold has1
        by_cases qb : tb O ((j : Nat) : Int) = true
        · rw [if_pos qb, if_pos (by decide)]
          exact nx0 (fun w => w.2.2.1 qb) s2 e2
        rw [if_neg qb, if_neg (by decide)]
        refine t_special (by omega) m2 X2 (fun s3 e3 => ?_)
        by_cases q3 : spV T ((i : Nat) : Int) ((j : Nat) : Int) ≤ 2
        · rw [if_pos q3]
          exact nx0 (fun w => by omega) s3 (e2.tr e3)
        · rw [if_neg q3]
          refine ⟨⟨by omega, by omega⟩, ⟨by omega, by omega⟩, ?_⟩
          have := ih i (j + 1) a s3 (by omega) hi a0 a1 (e2.tr e3) hnx
          rw [e1, show clP T O ((i : Nat) : Int) ((j : Nat) : Int) = 1 from if_pos ⟨qh, qa, qb, by omega⟩, ← Int.add_assoc] at this
          exact this
      · rw [if_pos qh]
        exact nx0 (fun w => qh w.1) s2 e2
  have outer : ∀ (d i : Nat) (s2 : jS), ((i : Nat) : Int) + ((d : Nat) : Int) = tG T → sq hpF σ s2 → J n c_Model_clashes (some .int) 4 [some (jo 1 0), some (ji (smZ (fun i => smZ (fun j => clP T O i j) i.toNat) i)), some (ji ((i : Nat) : Int)), none] [] s2 (qI Q) := by
    intro d
    induction d with
    | zero =>
      intro i s2 hi e2
      refine wp_Model_clashes_4 ⟨by omega, ?_⟩
      rw [e2.nrs 1014 0 (by decide), hX.2.2.1, if_pos (by omega)]
      have := hq s2 e2
      unfold clV at this
      rw [show (tG T).toNat = i by omega] at this
      exact this
    | succ d ih =>
      intro i s2 hi e2
      refine wp_Model_clashes_4 ⟨by omega, ?_⟩
      rw [e2.nrs 1014 0 (by decide), hX.2.2.1, if_neg (by omega)]
      have sr := smZ_rng (f := fun i => smZ (fun j => clP T O i j) i.toNat) (b := 24) (n := i) (fun k hk => by
        have := smZ_rng (f := fun j => clP T O ((k : Nat) : Int) j) (b := 1) (n := ((k : Nat) : Int).toNat) (fun k hk => clP_rng T O _ _)
        omega)
      have := inner i i 0 (smZ (fun i => smZ (fun j => clP T O i j) i.toNat) i) s2 (by omega) (by omega) (by omega) (by omega) e2 (fun s3 e3 => by
        have := ih (i + 1) s3 (by omega) e3
        have e1 : smZ (fun i => smZ (fun j => clP T O i j) i.toNat) (i + 1) = smZ (fun i => smZ (fun j => clP T O i j) i.toNat) i + smZ (fun j => clP T O ((i : Nat) : Int) j) i := by
          show _ + smZ (fun j => clP T O ((i : Nat) : Int) j) ((i : Nat) : Int).toNat = _
          rw [Int.toNat_natCast]
        rw [e1] at this
        exact this)
      have e0 : smZ (fun j => clP T O ((i : Nat) : Int) j) 0 = 0 := rfl
      rw [e0, Int.add_zero] at this
      exact this
  exact wp_Model_clashes (outer (tG T).toNat 0 σ (by omega) (sq.rf _ σ))
end ZCl
