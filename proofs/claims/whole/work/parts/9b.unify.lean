/-! Two types become one, the class's way: what is put is no circle, though it fails. -/
section ZXa
variable {n : Nat} {σ : jS} {g : zH} {N : Int} {β : List (Int × Int)} {x y u t a b x9 y9 : Int} {Rs : List Int} {r : Int → Nat}
theorem c_unifa13 {Q : Int → jS → Prop} (hn : 5 ≤ n) (hR : Rs.length ≤ 200) (hz : zok g N) (hL : ∀ k, crun g N k β [(x9, y9)] → k ≤ 16777216)
    (hq : ∀ b new σ2, cT σ2 g N (new ++ β) → cq vF σ σ2 → acy g N (new ++ β) → uOk g N β Rs x9 y9 b new → Q b σ2) :
    ∀ (M i : Nat) (new P : List (Int × Int)) (σ1 : jS), i + M = 16777216 → nwk g N β x9 y9 new P → cT σ1 g N (new ++ β) → cq vF σ σ1 → acy g N (new ++ β) → sml g N (new ++ β) Rs → rs σ1 9013 0 = 2 * (P.length : Nat) → stk2 (ra σ1 9009 0) P → ust g N (new ++ β) Rs P → (∀ ρ, (sol g N β ρ ∧ ρ x9 = ρ y9) ↔ (sol g N (new ++ β) ρ ∧ peq ρ P)) → (∀ k, crun g N k (new ++ β) P → crun g N (i + k) β [(x9, y9)]) → J n c_Terms_unify (some .boolean) 13 [some (jo 9 0), none, none, some (ji (i : Nat)), none, none, none] [] σ1 (qI Q) := by
  -- nothing is left to do
  have hend : ∀ (new : List (Int × Int)) (σ1 : jS), nwk g N β x9 y9 new [] → cT σ1 g N (new ++ β) → cq vF σ σ1 → acy g N (new ++ β) → sml g N (new ++ β) Rs → (∀ ρ, (sol g N β ρ ∧ ρ x9 = ρ y9) ↔ (sol g N (new ++ β) ρ ∧ peq ρ [])) → Q 1 σ1 := by
    intro new σ1 hnw h hsq ha hs hiff
    refine hq 1 new σ1 h hsq ha (Or.inl ⟨rfl, ha, hs, hnw, fun ρ => ?_⟩)
    rw [hiff ρ]
    exact ⟨fun q => ⟨q, fun p hp => by cases hp⟩, fun q => q.1⟩
  intro M
  induction M with
  | zero =>
    intro i new P σ1 hi hnw h hsq ha hs htop hst hw hiff hpre
    refine wp_Terms_unify_13 ?_
    rw [if_pos (by omega)]
    refine ⟨by omega, ?_⟩
    cases P with
    | nil =>
      rw [if_neg (fun w => w (by rw [htop]; rfl))]
      exact hend new σ1 hnw h hsq ha hs hiff
    | cons p P =>
      rw [if_pos (by rw [htop, List.length_cons]; omega)]
      refine hq 0 new σ1 h hsq ha (Or.inr ⟨rfl, fun ρ hρ hxy => ?_⟩)
      have q := (hiff ρ).mp ⟨hρ, hxy⟩
      obtain ⟨k, hk⟩ := crun_ex hz _ (new ++ β) rfl _ (p :: P) (Nat.le_refl _) h.1.2.2.1 ha (ust_all hw) ⟨ρ, q⟩
      have := hL _ (hpre k hk)
      have : k = 0 := by omega
      subst this
      cases hk
  | succ M ih =>
    intro i new P σ1 hi hnw h hsq ha hs htop hst hw hiff hpre
    have hb := h.1.2.2.1
    refine wp_Terms_unify_13 ?_
    rw [if_neg (by omega)]
    refine ⟨by omega, ?_⟩
    cases P with
    | nil =>
      rw [if_pos (by rw [htop]; decide), if_neg (fun w => w (by rw [htop]; rfl))]
      exact hend new σ1 hnw h hsq ha hs hiff
    | cons p P =>
      obtain ⟨a, b⟩ := p
      obtain ⟨⟨a0, a1, b0, b1, a2, b2, a3⟩, hw⟩ := hw
      obtain ⟨⟨s1, s2⟩, hst⟩ := hst
      have l9 := cln_at h.1.1 9009 0 2048 (by decide)
      have hP : P.length ≤ 2 * Rs.length := by
        obtain ⟨r, hr⟩ := ha
        have := a3 r hr
        omega
      have e0 : 2 * ((((a, b) :: P).length : Nat) : Int) - 2 = 2 * (P.length : Nat) := by rw [List.length_cons]; omega
      rw [htop, if_neg (by rw [List.length_cons]; omega), e0]
      refine ⟨⟨by omega, by omega⟩, fun σ2 f2 => ?_⟩
      have g2 : sq [(9013, 0)] σ1 σ2 := by rw [f2]; exact (sq.rf _ σ1).pws 9013 0 _ (by decide)
      have r2 : rs σ2 9013 0 = 2 * (P.length : Nat) := by rw [f2, rs_ws, if_pos ⟨rfl, rfl⟩]
      have h2 := h.sq g2 (by decide)
      have hsq2 : cq vF σ σ2 := hsq.tr (g2.cq (by decide))
      have hs2 : ra σ2 9009 0 = ra σ1 9009 0 := g2.nraf 9009 0 (by decide)
      have l2 : rl σ2 9009 0 = 2048 := by rw [g2.nrl]; exact l9
      rw [r2, hs2, s1, l2]
      refine ⟨by omega, by omega, by omega, by omega, c_solved (by omega) h2.1 ha a0 a1 ?_⟩
      rw [r2, hs2, s2, l2]
      refine ⟨by omega, ⟨by omega, by omega⟩, by omega, by omega, c_solved (by omega) h2.1 ha b0 b1 ?_⟩
      obtain ⟨i1, i2, i3, i4, i5, -⟩ := sv_all hz hb ha a a0 a1
      obtain ⟨k1, k2, k3, k4, k5, -⟩ := sv_all hz hb ha b b0 b1
      have hsvK := nwk_sv hz hb ha hnw a0 a1 b0 b1
      have hexa : ∀ ρ, (sol g N β ρ ∧ ρ x9 = ρ y9) ↔ (sol g N (new ++ β) ρ ∧ ρ (sv g N (new ++ β) a) = ρ (sv g N (new ++ β) b) ∧ peq ρ P) := fun ρ => by
        rw [hiff ρ, peq_cons]
        constructor
        · rintro ⟨q1, q2, q3⟩
          exact ⟨q1, by rw [i5 ρ q1, k5 ρ q1]; exact q2, q3⟩
        · rintro ⟨q1, q2, q3⟩
          exact ⟨q1, by rw [← i5 ρ q1, ← k5 ρ q1]; exact q2, q3⟩
      have hpre1 : ∀ k, crun g N (k + 1) (new ++ β) ((a, b) :: P) → crun g N (i + 1 + k) β [(x9, y9)] := fun k hk => by
        have := hpre (k + 1) hk
        rw [show i + 1 + k = i + (k + 1) by omega]
        exact this
      have hst2 : stk2 (ra σ2 9009 0) P := by rw [hs2]; exact hst
      by_cases exy : sv g N (new ++ β) a = sv g N (new ++ β) b
      · rw [if_neg (fun q => q exy)]
        refine ⟨⟨by omega, by omega⟩, ?_⟩
        refine ih (i + 1) new P σ2 (by omega) (nwk_tl hnw) h2 hsq2 ha hs r2 hst2 hw (fun ρ => ?_) (fun k hk => hpre1 k (Or.inl ⟨exy, hk⟩))
        rw [hexa ρ]
        exact ⟨fun q => ⟨q.1, q.2.2⟩, fun q => ⟨q.1, by rw [exy], q.2⟩⟩
      · rw [if_pos exy]
        refine c_isUnknown (by omega) h2.1 k2 k3 ?_
        -- an unknown u is put for t
        have key : ∀ u t, u ∈ Rs → t ∈ Rs → svd g (new ++ β) u → svd g (new ++ β) t → gh g u = -1 → ¬ t = u → 0 ≤ u → u < N → 0 ≤ t → t < N → (∀ ρ : Int → List Int, (ρ (sv g N (new ++ β) a) = ρ (sv g N (new ++ β) b)) ↔ (ρ u = ρ t)) → (∀ K : Int → Prop, eclo g N β K → K x9 → K y9 → K u ∧ K t) → (∀ k, ¬ -1 - u ∈ ex g N (new ++ β) t → crun g N k ((u, t) :: (new ++ β)) P → crun g N (k + 1) (new ++ β) ((a, b) :: P)) → J n c_Terms_unify (some .boolean) 100 [some (jo 9 0), none, none, some (ji (i : Nat)), some (ji u), some (ji t), none] [] σ2 (qI Q) := by
          intro u t uR tR us ts hu tu u0 u1 t0 t1 hut hutK hcr
          have hf := us hu
          refine wp_Terms_unify_100 ⟨by omega, by omega, c_isUnknown (by omega) h2.1 u0 u1 ?_⟩
          rw [if_pos hu, if_neg (by decide)]
          refine c_standsIn (by omega) h2 ha hs hR u0 u1 hu hf t0 t1 (by rw [sv_id hz hb ha t0 t1 ts]; exact tR) (fun bb σ3 hs3 h3 hbb => ?_)
          have hsq3 : cq vF σ σ3 := hsq2.tr (hs3.cq (by decide))
          rcases hbb with ⟨e, hm⟩ | ⟨e, hm⟩
          · rw [if_neg (by omega)]
            refine hq 0 new σ3 h3 hsq3 ha (Or.inr ⟨rfl, fun ρ hρ hxy => ?_⟩)
            obtain ⟨q1, q2, -⟩ := (hexa ρ).mp ⟨hρ, hxy⟩
            refine occ_no hz hb ha q1 t0 t1 u0 u1 hm (fun q => ?_) ((hut ρ).mp q2)
            by_cases gt : gh g t = -1
            · rw [ex_un hz hb ha t0 t1 gt (ts gt)] at q
              have : -1 - t = -1 - u := by simpa using q
              omega
            · rw [ex_con hz hb ha t0 t1 gt] at q
              have := (List.cons.inj q).1
              rcases (hz t t0 t1).1 with w | w
              · exact gt w
              · omega
          · rw [if_pos e]
            have ha2 : acy g N ((u, t) :: (new ++ β)) := bind_acy hz hb ha u0 u1 hu hf t0 t1 hm
            refine c_put (by omega) h3 u0 u1 hu hf t0 t1 (fun σ4 h4 hs4 => ⟨⟨by omega, by omega⟩, ?_⟩)
            have r4 : rs σ4 9013 0 = 2 * (P.length : Nat) := by
              rw [hs4.nrs 9013 0 (by decide) (by decide), hs3.nrs 9013 0 (by decide)]
              exact r2
            have hst4 : stk2 (ra σ4 9009 0) P := by
              rw [hs4.nraf 9009 0 (by decide) (by decide), hs3.nraf 9009 0 (by decide)]
              exact hst2
            refine ih (i + 1) ((u, t) :: new) P σ4 (by omega) (fun K c1 c2 c3 => ⟨fun p hp => by
              rcases List.mem_cons.mp hp with w | w
              · rw [w]; exact hutK K c1 c2 c3
              · exact (hnw K c1 c2 c3).1 p w, (nwk_tl hnw K c1 c2 c3).2⟩) h4 (hsq3.tr (hs4.mo (by decide))) ha2 (sml_bind hz hb ha hs u0 u1 hu hf t0 t1 ts tu tR ha2) r4 hst4 (ust_bind hz hb ha u0 u1 hu hf t0 t1 ts tu tR ha2 hw) (fun ρ => ?_) (fun k hk => hpre1 k (hcr k hm hk))
            rw [hexa ρ]
            show _ ↔ sol g N ((u, t) :: (new ++ β)) ρ ∧ peq ρ P
            rw [bind_sol u0 u1 hu hf t0, hut ρ]
            exact ⟨fun q => ⟨⟨q.1, q.2.1⟩, q.2.2⟩, fun q => ⟨q.1.1, q.1.2, q.2⟩⟩
        by_cases gy : gh g (sv g N (new ++ β) b) = -1
        · rw [if_pos gy, if_neg (by decide)]
          exact key _ _ b2 a2 k1 i1 gy exy k2 k3 i2 i3 (fun ρ => ⟨Eq.symm, Eq.symm⟩) (fun K c1 c2 c3 => (hsvK K c1 c2 c3).symm) (fun k m1 hk => Or.inr (Or.inl ⟨exy, gy, m1, hk⟩))
        · rw [if_neg gy, if_pos rfl]
          by_cases gx : gh g (sv g N (new ++ β) a) = -1
          · exact key _ _ a2 b2 i1 k1 gx (fun q => exy q.symm) i2 i3 k2 k3 (fun ρ => Iff.rfl) hsvK (fun k m1 hk => Or.inr (Or.inr (Or.inl ⟨exy, gy, gx, m1, hk⟩)))
          · refine wp_Terms_unify_100 ⟨by omega, by omega, c_isUnknown (by omega) h2.1 i2 i3 ?_⟩
            rw [if_neg gx, if_pos rfl]
            refine c_signOf h2.1 i2 i3 (c_signOf h2.1 k2 k3 ?_)
            unfold sg
            rw [if_neg gx, if_neg gy]
            by_cases he : gh g (sv g N (new ++ β) a) = gh g (sv g N (new ++ β) b)
            · rw [if_neg (fun q => q he)]
              refine c_pushParts (by omega) h2 i2 i3 k2 k3 he r2 hst2 (by omega) (fun σ3 f3 g3 m3 => ⟨⟨by omega, by omega⟩, ?_⟩)
              refine ih (i + 1) new _ σ3 (by omega) (fun K c1 c2 c3 => ⟨(hnw K c1 c2 c3).1, fun p hp => by
                have hxy := hsvK K c1 c2 c3
                have he2 := eclo_app c1 (hnw K c1 c2 c3).1
                rcases pud_mem.mp hp with ⟨k, hk, e⟩ | w
                · rw [e]
                  exact ⟨(he2 _ hxy.1 i2 i3).1 k hk, (he2 _ hxy.2 k2 k3).1 k (by rw [← he]; exact hk)⟩
                · exact (nwk_tl hnw K c1 c2 c3).2 p w⟩) (h2.sq f3 (by decide)) (hsq2.tr (f3.cq (by decide))) ha hs g3 m3 (ust_pud hz hb ha hs a2 b2 he a3 hw _ 0 (by omega)) (fun ρ => ?_) (fun k hk => hpre1 k (Or.inr (Or.inr (Or.inr ⟨exy, gy, gx, he, hk⟩))))
              rw [hexa ρ, peq_pud]
              constructor
              · rintro ⟨q1, q2, q3⟩
                exact ⟨q1, (con_dec hz q1 i2 i3 k2 k3 gx he).mp q2, q3⟩
              · rintro ⟨q1, q2, q3⟩
                exact ⟨q1, (con_dec hz q1 i2 i3 k2 k3 gx he).mpr q2, q3⟩
            · rw [if_pos he]
              refine hq 0 new σ2 h2 hsq2 ha (Or.inr ⟨rfl, fun ρ hρ hxy => ?_⟩)
              obtain ⟨q1, q2, -⟩ := (hexa ρ).mp ⟨hρ, hxy⟩
              exact con_no q1 i2 i3 k2 k3 gx gy he q2
/-- two nodes become one, or nothing makes them one -/
theorem c_unifa {Q : Int → jS → Prop} (hn : 5 ≤ n) (hR : Rs.length ≤ 200) (h : cT σ g N β) (ha : acy g N β) (hs : sml g N β Rs) (x0 : 0 ≤ x) (x1 : x < N) (y0 : 0 ≤ y) (y1 : y < N) (xR : sv g N β x ∈ Rs) (yR : sv g N β y ∈ Rs) (hL : ∀ k, crun g N k β [(x, y)] → k ≤ 16777216)
    (hq : ∀ b new σ2, cT σ2 g N (new ++ β) → cq vF σ σ2 → acy g N (new ++ β) → uOk g N β Rs x y b new → Q b σ2) : TrI n i_Terms_unify [jo 9 0, ji x, ji y] σ Q := by
  refine wp_Terms_unify ⟨by omega, fun σ1 e1 => ⟨by omega, ?_⟩⟩
  have f1 : sq [(9013, 0)] σ σ1 := by rw [e1]; exact (sq.rf _ σ).pws 9013 0 _ (by decide)
  have h1 := h.sq f1 (by decide)
  refine c_pushPair (P := []) h1.1.1 (by rw [e1, rs_ws, if_pos ⟨rfl, rfl⟩]; rfl) trivial (by simp) (fun σ2 g1 g2 g3 => ?_)
  refine c_unifa13 (β := β) (σ := σ) hn hR h.1.2.1 hL hq 16777216 0 [] [(x, y)] σ2 (by omega) (fun K _ c2 c3 => ⟨fun p hp => (by cases hp), fun p hp => by
    have : p = (x, y) := by simpa using hp
    rw [this]; exact ⟨c2, c3⟩⟩) (h1.sq g1 (by decide)) ((f1.cq (by decide)).tr (g1.cq (by decide))) ha hs g2 g3 ⟨⟨x0, x1, y0, y1, xR, yR, fun r hr => by have := dR_max (r := r) xR; simp; omega⟩, trivial⟩ (fun ρ => ?_) (fun k hk => by rw [Nat.zero_add]; exact hk)
  rw [peq_cons]
  exact ⟨fun q => ⟨q.1, q.2, fun p hp => by cases hp⟩, fun q => ⟨q.1, q.2.1⟩⟩
end ZXa
