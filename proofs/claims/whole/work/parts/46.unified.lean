/-! Two types become one: the reference's way, as a whole. -/
section ZV
variable {n : Nat} {σ : jS} {g : zH} {N : Int} {β : List (Int × Int)} {x y u t a b x9 y9 : Int} {Rs : List Int} {r : Int → Nat}
def uOk (g : zH) (N : Int) (β : List (Int × Int)) (Rs : List Int) (x9 y9 : Int) (b : Int) (new : List (Int × Int)) : Prop :=
  (b = 1 ∧ acy g N (new ++ β) ∧ sml g N (new ++ β) Rs ∧ nwk g N β x9 y9 new [] ∧ ∀ ρ, sol g N (new ++ β) ρ ↔ sol g N β ρ ∧ ρ x9 = ρ y9) ∨ (b = 0 ∧ ∀ ρ, sol g N β ρ → ¬ ρ x9 = ρ y9)
theorem t_unified16 {Q : Int → jS → Prop} (hn : 2 ≤ n) (hR : Rs.length ≤ 200) (hz : zok g N)
    (hq : ∀ b new σ2, mT σ2 g N (new ++ β) → sq uF σ σ2 → uOk g N β Rs x9 y9 b new → Q b σ2) :
    ∀ (U : Nat) (new : List (Int × Int)), zu g N - (new ++ β).length = U → ∀ (M : Nat) (P : List (Int × Int)) (σ1 : jS), mz2 g N (new ++ β) P ≤ M → nwk g N β x9 y9 new P → mT σ1 g N (new ++ β) → sq uF σ σ1 → acy g N (new ++ β) → sml g N (new ++ β) Rs → stk2 (ra σ1 1040 0) P → ust g N (new ++ β) Rs P → (∀ ρ, (sol g N β ρ ∧ ρ x9 = ρ y9) ↔ (sol g N (new ++ β) ρ ∧ peq ρ P)) → J n c_Model_isUnified (some .boolean) 16 [some (jo 1 0), none, none, some (ji (2 * (P.length : Nat))), none, none, none, none] [] σ1 (qI Q) := by
  intro U
  induction U using Nat.strongRecOn with
  | ind U ihU =>
    intro new hU M
    induction M with
    | zero =>
      intro P σ1 hM hnw h hsq ha hs hst hw hiff
      have hb := h.2.2.1
      cases P with
      | nil =>
        refine wp_Model_isUnified_16 ?_
        rw [if_pos (by simp)]
        refine hq 1 new σ1 h hsq (Or.inl ⟨rfl, ha, hs, hnw, fun ρ => ?_⟩)
        rw [hiff ρ]
        exact ⟨fun q => ⟨q, fun p hp => by cases hp⟩, fun q => q.1⟩
      | cons p P =>
        obtain ⟨a, b⟩ := p
        have := ex_ne hz hb ha hw.1.1 hw.1.2.1
        unfold mz2 at hM
        rw [List.map_cons, List.sum_cons] at hM
        dsimp only at hM
        omega
    | succ M ih =>
      intro P σ1 hM hnw h hsq ha hs hst hw hiff
      have hb := h.2.2.1
      cases P with
      | nil =>
        refine wp_Model_isUnified_16 ?_
        rw [if_pos (by simp)]
        refine hq 1 new σ1 h hsq (Or.inl ⟨rfl, ha, hs, hnw, fun ρ => ?_⟩)
        rw [hiff ρ]
        exact ⟨fun q => ⟨q, fun p hp => by cases hp⟩, fun q => q.1⟩
      | cons p P =>
        obtain ⟨a, b⟩ := p
        obtain ⟨⟨a0, a1, b0, b1, a2, b2, a3⟩, hw⟩ := hw
        obtain ⟨⟨s1, s2⟩, hst⟩ := hst
        have l40 := mln_at h.1 1040 4000 (by decide)
        have l28 := mln_at h.1 1028 40000 (by decide)
        have hN := h.2.2.2.2.2.1
        have hP : P.length ≤ 2 * Rs.length := by
          obtain ⟨r, hr⟩ := ha
          have := a3 r hr
          omega
        have e0 : 2 * ((((a, b) :: P).length : Nat) : Int) + (-2) = 2 * (P.length : Nat) := by rw [List.length_cons]; omega
        refine wp_Model_isUnified_16 ?_
        rw [e0, if_neg (by rw [List.length_cons]; omega)]
        refine ⟨⟨by omega, by omega⟩, by omega, by omega, by omega, by omega, by omega, ?_⟩
        rw [s1]
        refine t_seen h ha a0 a1 ⟨by omega, ⟨by omega, by omega⟩, by omega, by omega, ?_⟩
        rw [s2]
        refine t_seen h ha b0 b1 ?_
        obtain ⟨i1, i2, i3, i4, i5, -⟩ := sv_all hz hb ha a a0 a1
        obtain ⟨k1, k2, k3, k4, k5, -⟩ := sv_all hz hb ha b b0 b1
        have hsvK := nwk_sv h.2.1 hb ha hnw a0 a1 b0 b1
        generalize hx : sv g N (new ++ β) a = x at hsvK i1 i2 i3 i4 i5 a2 a3 ⊢
        generalize hy : sv g N (new ++ β) b = y at hsvK k1 k2 k3 k4 k5 b2 ⊢
        have hMP : mz2 g N (new ++ β) P ≤ M := by
          have := ex_ne hz hb ha a0 a1
          unfold mz2 at hM ⊢
          rw [List.map_cons, List.sum_cons] at hM
          dsimp only at hM
          omega
        have hexa : ∀ ρ, (sol g N β ρ ∧ ρ x9 = ρ y9) ↔ (sol g N (new ++ β) ρ ∧ ρ x = ρ y ∧ peq ρ P) := fun ρ => by
          rw [hiff ρ, peq_cons]
          constructor
          · rintro ⟨q1, q2, q3⟩
            exact ⟨q1, by rw [i5 ρ q1, k5 ρ q1]; exact q2, q3⟩
          · rintro ⟨q1, q2, q3⟩
            exact ⟨q1, by rw [← i5 ρ q1, ← k5 ρ q1]; exact q2, q3⟩
        by_cases exy : x = y
        · rw [if_neg (fun q => q exy)]
          refine ih P σ1 hMP (nwk_tl hnw) h hsq ha hs hst hw (fun ρ => ?_)
          rw [hexa ρ]
          exact ⟨fun q => ⟨q.1, q.2.2⟩, fun q => ⟨q.1, by rw [exy], q.2⟩⟩
        · rw [if_pos exy]
          refine ⟨by omega, i2, by omega, ?_⟩
          have hx28 : ra σ1 1028 0 x = gh g x := h.2.2.2.2.2.2.2.1 x i2 i3
          have hy28 : ra σ1 1028 0 y = gh g y := h.2.2.2.2.2.2.2.1 y k2 k3
          rw [hx28, hy28]
          -- an unknown u is put for t
          have key : ∀ u t, u ∈ Rs → t ∈ Rs → svd g (new ++ β) u → svd g (new ++ β) t → gh g u = -1 → ¬ t = u → 0 ≤ u → u < N → 0 ≤ t → t < N → (∀ ρ : Int → List Int, (ρ x = ρ y) ↔ (ρ u = ρ t)) → (∀ K : Int → Prop, eclo g N β K → K x9 → K y9 → K u ∧ K t) → TrI (n - 1) i_Model_isWithin [jo 1 0, ji u, ji t] σ1 (fun zr7 zs6 => (if zr7 = 0 then TrV (n - 1) i_Model_tie [jo 1 0, ji u, ji t] zs6 (fun zs8 => J n c_Model_isUnified (some .boolean) 16 [some (jo 1 0), none, none, some (ji (2 * (P.length : Nat))), none, none, none, none] [] zs8 (qI Q)) else Q 0 zs6)) := by
            intro u t uR tR us ts hu tu u0 u1 t0 t1 hut hutK
            have hf := us hu
            refine t_isWithin (by omega) h ha hs hR u0 u1 hu hf t0 t1 (by rw [sv_id hz hb ha t0 t1 ts]; exact tR) (fun bb σ2 hs2 hbb => ?_)
            have h2 := h.sq hs2 (by decide)
            have hsq2 : sq uF σ σ2 := hsq.tr (hs2.mo (by decide))
            rcases hbb with ⟨e, hm⟩ | ⟨e, hm⟩
            · rw [if_neg (by omega)]
              refine hq 0 new σ2 h2 hsq2 (Or.inr ⟨rfl, fun ρ hρ hxy => ?_⟩)
              obtain ⟨q1, q2, -⟩ := (hexa ρ).mp ⟨hρ, hxy⟩
              refine occ_no hz hb ha q1 t0 t1 u0 u1 hm (fun q => ?_) ((hut ρ).mp q2)
              by_cases gt : gh g t = -1
              · rw [ex_un hz hb ha t0 t1 gt (ts gt)] at q
                have : -1 - t = -1 - u := by simpa using q
                omega
              · rw [ex_con hz hb ha t0 t1 gt] at q
                have := (List.cons.inj q).1
                rcases (hz t t0 t1).1 with w | w
                · exact gt w
                · omega
            · rw [if_pos e]
              have ha2 : acy g N ((u, t) :: (new ++ β)) := bind_acy hz hb ha u0 u1 hu hf t0 t1 hm
              have hb2 : bok g N ((u, t) :: (new ++ β)) := bind_bok hb u0 u1 hu hf t0 t1
              have hlen := bl_len hb2
              rw [List.length_cons] at hlen
              refine t_tie h2 u0 u1 hu hf t0 t1 (fun σ3 h3 hs3 => ?_)
              have hst3 : stk2 (ra σ3 1040 0) P := by
                rw [hs3.nraf 1040 0 (by decide), hs2.nraf 1040 0 (by decide)]
                exact hst
              exact ihU (zu g N - (((u, t) :: new) ++ β).length) (by rw [List.cons_append, List.length_cons]; omega) ((u, t) :: new) rfl _ P σ3 (Nat.le_refl _) (fun K k1 k2 k3 => ⟨fun p hp => by
                rcases List.mem_cons.mp hp with w | w
                · rw [w]; exact hutK K k1 k2 k3
                · exact (hnw K k1 k2 k3).1 p w, (nwk_tl hnw K k1 k2 k3).2⟩) h3 (hsq2.tr (hs3.mo (by decide))) ha2 (sml_bind hz hb ha hs u0 u1 hu hf t0 t1 ts tu tR ha2) hst3 (ust_bind hz hb ha u0 u1 hu hf t0 t1 ts tu tR ha2 hw) (fun ρ => by
                rw [hexa ρ]
                show _ ↔ sol g N ((u, t) :: (new ++ β)) ρ ∧ peq ρ P
                rw [bind_sol u0 u1 hu hf t0, hut ρ]
                exact ⟨fun q => ⟨⟨q.1, q.2.1⟩, q.2.2⟩, fun q => ⟨q.1.1, q.1.2, q.2⟩⟩)
          by_cases gx : gh g x = -1
          · rw [if_pos gx]
            refine wp_Model_isUnified_81 ⟨by omega, by omega, i2, by omega, ?_⟩
            rw [hx28, if_neg (fun q => q gx), if_neg (fun q => q rfl)]
            exact ⟨by omega, key x y a2 b2 i1 k1 gx (fun q => exy q.symm) i2 i3 k2 k3 (fun ρ => Iff.rfl) hsvK⟩
          · rw [if_neg gx]
            refine ⟨k2, by omega, ?_⟩
            by_cases gy : gh g y = -1
            · rw [if_neg (fun q => q gy)]
              refine wp_Model_isUnified_81 ⟨by omega, by omega, i2, by omega, ?_⟩
              rw [hx28, if_pos gx, if_pos (fun q => exy q.symm)]
              exact ⟨by omega, key y x b2 a2 k1 i1 gy exy k2 k3 i2 i3 (fun ρ => ⟨Eq.symm, Eq.symm⟩) (fun K c1 c2 c3 => (hsvK K c1 c2 c3).symm)⟩
            · rw [if_pos gy]
              by_cases he : gh g x = gh g y
              · rw [if_pos he]
                have p3 := pN_3 hz i2 i3
                refine t_unify163 (by omega) h i2 i3 k2 k3 he (pN (gh g x)) 0 P σ1 (by omega) (by omega) (sq.rf _ σ1) hst (fun σ2 hs2 hst2 => ?_)
                refine ih _ σ2 ?_ (fun K c1 c2 c3 => ⟨(hnw K c1 c2 c3).1, fun p hp => by
                  have hxy := hsvK K c1 c2 c3
                  have he2 := eclo_app c1 (hnw K c1 c2 c3).1
                  rcases psh_mem.mp hp with ⟨k, hk, e⟩ | w
                  · rw [e]
                    exact ⟨(he2 x hxy.1 i2 i3).1 k hk, (he2 y hxy.2 k2 k3).1 k (by rw [← he]; exact hk)⟩
                  · exact (nwk_tl hnw K c1 c2 c3).2 p w⟩) (h.sq hs2 (by decide)) (hsq.tr (hs2.mo (by decide))) ha hs hst2 (ust_psh hz hb ha hs a2 b2 he _ 0 P (by omega) a3 hw) (fun ρ => ?_)
                · rw [mz2_psh]
                  unfold mz2 at hM ⊢
                  rw [List.map_cons, List.sum_cons] at hM
                  dsimp only at hM ⊢
                  rw [← i4, ex_clen hz hb ha i2 i3 gx] at hM
                  omega
                · rw [hexa ρ, peq_psh]
                  constructor
                  · rintro ⟨q1, q2, q3⟩
                    exact ⟨q1, (con_dec hz q1 i2 i3 k2 k3 gx he).mp q2, q3⟩
                  · rintro ⟨q1, q2, q3⟩
                    exact ⟨q1, (con_dec hz q1 i2 i3 k2 k3 gx he).mpr q2, q3⟩
              · rw [if_neg he]
                refine hq 0 new σ1 h hsq (Or.inr ⟨rfl, fun ρ hρ hxy => ?_⟩)
                obtain ⟨q1, q2, -⟩ := (hexa ρ).mp ⟨hρ, hxy⟩
                exact con_no q1 i2 i3 k2 k3 gx gy he q2
/-- two nodes become one, or nothing makes them one -/
theorem t_isUnified {Q : Int → jS → Prop} (hn : 2 ≤ n) (hR : Rs.length ≤ 200) (h : mT σ g N β) (ha : acy g N β) (hs : sml g N β Rs) (x0 : 0 ≤ x) (x1 : x < N) (y0 : 0 ≤ y) (y1 : y < N) (xR : sv g N β x ∈ Rs) (yR : sv g N β y ∈ Rs)
    (hq : ∀ b new σ2, mT σ2 g N (new ++ β) → sq uF σ σ2 → uOk g N β Rs x y b new → Q b σ2) : TrI n i_Model_isUnified [jo 1 0, ji x, ji y] σ Q := by
  have l40 := mln_at h.1 1040 4000 (by decide)
  refine wp_Model_isUnified ⟨by omega, by omega, by omega, fun σ1 e1 => ?_⟩
  have g28 : ∀ F, rl σ1 F 0 = rl σ F 0 := fun F => by rw [e1]; rfl
  simp only [g28]
  refine ⟨by omega, by omega, fun σ2 e2 => ?_⟩
  have hsq : sq [(1040, 0)] σ σ2 := by rw [e2, e1]; exact ((sq.rf _ σ).pwa 1040 0 _ _ (by decide)).pwa 1040 0 _ _ (by decide)
  refine t_unified16 (β := β) (σ := σ) hn hR h.2.1 hq _ [] rfl _ [(x, y)] σ2 (Nat.le_refl _) (fun K _ c2 c3 => ⟨fun p hp => (by cases hp), fun p hp => by
    have : p = (x, y) := by simpa using hp
    rw [this]; exact ⟨c2, c3⟩⟩) (h.sq hsq (by decide)) (hsq.mo (by decide)) ha hs ?_ ⟨⟨x0, x1, y0, y1, xR, yR, fun r hr => by have := dR_max (r := r) xR; simp; omega⟩, trivial⟩ (fun ρ => ?_)
  · rw [e2, e1]
    exact stk2_up (P := []) trivial
  · rw [peq_cons]
    exact ⟨fun q => ⟨q.1, q.2, fun p hp => by cases hp⟩, fun q => ⟨q.1, q.2.1⟩⟩
end ZV
