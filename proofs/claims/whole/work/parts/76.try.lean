/-! A given one is tried, as a whole: the class. -/
section ZTr2
variable {n : Nat} {σ : jS} {P : zP} {s : zS} {path β : List (Int × Int)} {k x me : Int} {ask : zS → Int → zS × zQ}
theorem lay_gok (hT : tok P.1) (k0 : 0 ≤ k) (k1 : k < tG P.1) (h : gok s) (x0 : 0 ≤ x) (x1 : x < hN s) : gok (spLay P.1 k x s) ∧ gon s (spLay P.1 k x s) 1 := by
  obtain ⟨l1, l2, l3, l4, l5, l6, l7, l8⟩ := lgv_ok (T := P.1) hT k0 k1 h.1 h.2.1
  refine ⟨⟨l4, Int.le_trans h.2.1 l1, fun p hp => ?_, h.2.2.2⟩, ⟨Int.le_refl _, h.2.2.2, Int.le_refl _, Int.le_refl _, Int.le_refl _, by show sTr s ≤ sTr s + 1; omega, by show sTr s + 1 + sC s - 144 * sA s ≤ sTr s + sC s - 144 * sA s + 1; omega, Int.le_refl _, fun h => h, fun h => h, [], by show sM s = sM s ++ []; simp⟩⟩
  rcases List.mem_cons.mp hp with w | w
  · rw [w]
    exact ⟨⟨l6.1, l6.2⟩, x0, Int.lt_of_lt_of_le x1 l1⟩
  · exact eok_mono h.2.2.1 l1 p w
/-- the tallies and the way, by a step more -/
theorem cB_step {σ1 : jS} {s1 : zS} (h : cB σ P s path) (e : sq [(7002, 0), (7010, 0), (7011, 0)] σ σ1) (ht : tly σ1 s1) (hm : sM s1 = sM s) (hA : sA s ≤ sA s1) (hp : ∀ d, (hd : d < path.length) → ra σ1 7010 0 d = (path[d]).1 ∧ ra σ1 7011 0 d = (path[d]).2) : cB σ1 P s1 path := by
  obtain ⟨h1, h2, h3, h4, h5, h6, h7, h8, h9, h10⟩ := h
  have q := e.cq (l' := [(7002, 0), (7010, 0), (7011, 0)]) (by decide)
  unfold cB
  rw [e.nrs 7015 0 (by decide), e.nrs 7016 0 (by decide), e.nrs 7014 0 (by decide), e.nrs 7018 0 (by decide), e.nrs 6000 1 (by decide), e.nrl 6001 1, e.nrs 9002 0 (by decide), e.nrl 9007 0, hm]
  exact ⟨h1.cq q, h2.cq q (by decide), h3.cq q (by decide) (nofl (by decide)), h4, ht, hp, h7.cq q (by decide) (by decide), ⟨h8.1, by omega, h8.2.2⟩, h9, q.2.2.2.2 h10⟩
theorem c_tryGiven {Q : Int → jS → Prop} (hn : 10 ≤ n) (hask : askC P (n - 1) ask (path ++ [(k, x)])) (hR : ∀ s y, gok s → 0 ≤ y → y < hN s → askR s (ask s y) 0 0 0) (hT : tok P.1) (k0 : 0 ≤ k) (k1 : k < tG P.1) (hd : path.length < 20) (hB : cB σ P s path) (hH : cH σ s β) (h0 : nOk s) (hp0 : pot s ≤ 199) (hst : rs σ 7017 0 = 0) (x0 : 0 ≤ x) (x1 : x < hN s) (hxl : (ex (hG s) (hN s) β x).length ≤ 100) (hpath : ∀ p, p ∈ path → 0 ≤ p.2 ∧ p.2 < hN s) (hsv : rs σ 9002 0 ≤ 2 * (100 * (((path.length : Nat) : Int) + 1) + zu (hG s) (hN s))) (hbN : hN s + 60 ≤ 12 + 120 * sA s) (hbz : (zu (hG s) (hN s) : Int) + 26 ≤ 12 + 52 * sA s)
    (hcan : ∃ ρ, solE (hG s) (hN s) (hE s) ρ ∧ ∃ θ : Int → List Int, (∀ v, Typ (θ v)) ∧ sbt θ (tR P.1 k 0) = ρ x)
    (hq : ∀ v σ', aPost P σ σ' s path β x (tslots me (layGv P.1 k (hG s) (hN s)).2.2.2.length) (spTry P ask k x s) → (v = match (spTry P ask k x s).2.2.1 with
      | none => 0
      | some t => ((expT (sM (spTry P ask k x s).1) t).length : Int) + 1) → Q v σ') : TrI n i_Search_tryGiven [jo 7 0, ji k, ji x, ji (path.length : Nat), ji me] σ Q := by
  obtain ⟨hcT, hrep, hgk⟩ := hH
  obtain ⟨o1, o2, o3, o4, o5, o6, o7, o8, o9⟩ := h0
  have h00 : nOk s := ⟨o1, o2, o3, o4, o5, o6, o7, o8, o9⟩
  have htl := hB.2.2.2.2.1
  have hpa := hB.2.2.2.2.2.1
  have htop := hB.2.2.2.2.2.2.2.1.1
  have l02 := cln_at hB.1 7002 0 9 (by decide)
  have l10 := cln_at hB.1 7010 0 20 (by decide)
  have l11 := cln_at hB.1 7011 0 20 (by decide)
  obtain ⟨l1, l2, l3, l4, l5, l6, l7, l8⟩ := lgv_ok (T := P.1) hT k0 k1 hgk.1 hgk.2.1
  obtain ⟨fr1, fr2, fr3⟩ := lgv_fresh (T := P.1) hT k0 k1 hgk.1 hgk.2.1
  obtain ⟨gk1, gn1⟩ := lay_gok (P := P) (s := s) (x := x) hT k0 k1 hgk x0 x1
  have hpot : sTr s + sC s ≤ 30000 := by unfold pot at o7; omega
  refine wp_Search_tryGiven ⟨by omega, by omega, by omega, by rw [htl.2.2.2.1]; exact ⟨by omega, by omega⟩, fun s5 e5 => ?_⟩
  have f5 : sq [(7002, 0), (7010, 0), (7011, 0)] σ s5 := by rw [e5]; exact (sq.rf _ σ).pwa 7002 0 _ _ (by decide)
  rw [f5.nrl 7010 0]
  refine ⟨by omega, by omega, by omega, fun s7 e7 => ?_⟩
  have f7 : sq [(7002, 0), (7010, 0), (7011, 0)] σ s7 := by rw [e7]; exact f5.pwa 7010 0 _ _ (by decide)
  rw [f7.nrl 7011 0]
  refine ⟨by omega, by omega, fun s11 e11 => ?_⟩
  have f11 : sq [(7002, 0), (7010, 0), (7011, 0)] σ s11 := by rw [e11]; exact f7.pwa 7011 0 _ _ (by decide)
  have q11 := f11.cq (l' := [(7002, 0), (7010, 0), (7011, 0)]) (by decide)
  have a02 : ra s11 7002 0 = upI (ra σ 7002 0) 4 (ra σ 7002 0 4 + 1) := by rw [e11, e7, e5]; rfl
  have a10 : ra s11 7010 0 = upI (ra σ 7010 0) (path.length : Nat) k := by rw [e11, e7, e5]; rfl
  have a11 : ra s11 7011 0 = upI (ra σ 7011 0) (path.length : Nat) x := by rw [e11, e7, e5]; rfl
  have hlp : (path ++ [(k, x)]).length = path.length + 1 := by simp
  -- the store after the step
  have B11 : cB s11 P (spLay P.1 k x s) (path ++ [(k, x)]) := by
    have hst2 := cB_step (s1 := spLay P.1 k x s) hB f11 (by
      obtain ⟨w1, w2, w3, w4, w5⟩ := htl
      unfold tly
      rw [a02]
      unfold upI
      refine ⟨?_, ?_, ?_, ?_, ?_⟩
      · rw [if_neg (by decide)]; exact w1
      · rw [if_neg (by decide)]; exact w2
      · rw [if_neg (by decide)]; exact w3
      · rw [if_pos rfl, w4]; rfl
      · rw [if_neg (by decide)]; exact w5) rfl (Int.le_refl _) (fun d hd' => by
      rw [a10, a11]
      unfold upI
      rw [if_neg (by omega), if_neg (by omega)]
      exact hpa d hd')
    obtain ⟨b1, b2, b3, b4, b5, b6, b7, b8, b9, b10⟩ := hst2
    refine ⟨b1, b2, b3, b4, b5, fun d hd' => ?_, b7, b8, b9, b10⟩
    by_cases w : d < path.length
    · rw [List.getElem_append_left w]
      exact b6 d w
    · have ed : d = path.length := by omega
      subst ed
      rw [a10, a11]
      unfold upI
      rw [if_pos rfl, if_pos rfl]
      simp
  have T11 := hcT.sq f11 (by decide)
  have t70 := cC_at B11.2.1 7000 0 0 (by decide)
  rw [t70]
  refine ⟨by omega, c_buildGiven (by omega) T11 B11.2.1 B11.2.2.1 k0 k1 (by omega) (by omega) (by omega) (by have := hcT.1.2.2.2.2.2.2.1; omega) (fun σ2 c1 c2 c3 c4 => ⟨by omega, ?_⟩)⟩
  have B2 : cB σ2 P (spLay P.1 k x s) (path ++ [(k, x)]) := B11.cq c2 (by decide) (by decide) (by decide) (by decide)
  have hrep2 : rep (layGv P.1 k (hG s) (hN s)).1 (layGv P.1 k (hG s) (hN s)).2.1 β (hE s) := rep_ext l3 l1 hgk.1 l4 hgk.2.2.1 hrep
  have hxl2 : (ex (layGv P.1 k (hG s) (hN s)).1 (layGv P.1 k (hG s) (hN s)).2.1 β x).length ≤ 100 := by
    rw [ex_ext l3 l1 hgk.1 l4 hrep.1 hrep.2.1 x x0 x1]; exact hxl
  -- its RESULT is no longer than its row
  have hrl : (ex (layGv P.1 k (hG s) (hN s)).1 (layGv P.1 k (hG s) (hN s)).2.1 β (layGv P.1 k (hG s) (hN s)).2.2.1).length ≤ 12 := by
    obtain ⟨-, -, t1, t2, t3⟩ := hT.2.2.2.2.2 k k0 k1
    have hr0 := t3 0 t1
    have hl := lok_all hgk.1 hgk.2.1 (vok_n (hG s) (hN s)) hr0.1 hr0.2.1
    have hrt := lay_root hl hr0.1
    have hl1 := hl.1
    have hl3 := hl.2.2.1
    have hl4 := hl.2.2.2.1
    have hl5 := hl.2.2.2.2.1
    have hrepR : rep _ _ β (hE s) := rep_ext hl3 hl1 hgk.1 hl4 hgk.2.2.1 hrep
    have hex := lay_exlen hl hr0.1 hrep.1 hrepR.1 hrepR.2.1
    obtain ⟨a1, a2, a3, a4, a5, a6, a7, a8⟩ := lns_ok (T := P.1) (k := k) (tN P.1 k).toNat 1 _ _ _ hl4 (by have := hgk.2.1; omega) hl5 (fun i' h1 h2 => t3 i' (by omega))
    have := ex_ext a3 a1 hl4 a4 hrepR.1 hrepR.2.1 _ hrt.1 hrt.2.1
    show (ex (layNs P.1 k (tN P.1 k).toNat 1 _ _ _).1 (layNs P.1 k (tN P.1 k).toNat 1 _ _ _).2.1 β ((layR (tR P.1 k 0) (hG s) (hN s) (fun _ => -1)).2.2.2.headD 0)).length ≤ 12
    rw [this, hex]
    exact hr0.2.2
  obtain ⟨R1, p1, p2, p3, p4⟩ := sml_ex l4 hrep2.1 hrep2.2.1 _ l6.1 l6.2
  obtain ⟨R2, u1, u2, u3, u4⟩ := sml_ex l4 hrep2.1 hrep2.2.1 x x0 (by omega)
  have hRl : (R1 ++ R2).length ≤ 200 := by rw [List.length_append]; omega
  refine c_unify (Rs := R1 ++ R2) (by omega) hRl c1 hrep2.2.1 (sml_app p2 u2) l6.1 l6.2 x0 (by omega) (List.mem_append_left _ p1) (List.mem_append_right _ u1) (fun kk hkk => crun_most l4 hrep2.1 hrep2.2.1 l6.1 l6.2 x0 (by omega) (by omega) hkk) (fun bb new σ3 m1 m2 m3 => ?_)
  rcases m3 with ⟨e, d1, d2, d3, d4⟩ | ⟨e, d4⟩
  · rw [if_pos (by omega)]
    have B3 : cB σ3 P (spLay P.1 k x s) (path ++ [(k, x)]) := B2.cq m2 (by decide) (by decide) (by decide) (by decide)
    have hrep3 : rep (layGv P.1 k (hG s) (hN s)).1 (layGv P.1 k (hG s) (hN s)).2.1 (new ++ β) (((layGv P.1 k (hG s) (hN s)).2.2.1, x) :: hE s) := rep_put (Rs := []) hrep2 m1.1.2.2.1 d1 d4
    have c23 : cq (bgF ++ vF) s11 σ3 := (c2.mo (by decide)).tr (m2.mo (by decide))
    have aqa : aq σ σ3 := (q11.aq (fun p hp => by
      simp at hp
      rcases hp with w | w | w <;> rw [w] <;> unfold askFp <;> simp)).tr (c23.aq (fun p hp => by
      simp [bgF, vF] at hp
      rcases hp with w | w | w | w | w | w | w | w | w | w | w | w | w | w | w | w <;> rw [w] <;> unfold askFp <;> simp))
    have := c_try49 (σ := σ) (me := me) (Q := Q) (n := n) (by omega) hask hR hT k0 k1 hd h00 hp0 (fun p hp => by
      rcases List.mem_append.mp hp with w | w
      · exact hpath p w
      · have : p = (k, x) := by simpa using w
        rw [this]; exact ⟨x0, x1⟩) hgk htop hsv hq (layGv P.1 k (hG s) (hN s)).2.2.2.length 0 (spLay P.1 k x s) [] new σ3 (by omega) rfl B3 ⟨m1, hrep3, gk1⟩ gn1 (by rw [c23.nrs 7017 0 (by decide) (by decide), f11.nrs 7017 0 (by decide)]; exact hst) aqa ⟨by rw [c23.nrs 9002 0 (by decide) (by decide), f11.nrs 9002 0 (by decide)], fun z _ _ => by rw [c23.nraf 9007 0 (by decide) (by decide), f11.nraf 9007 0 (by decide)]⟩ (fun z hz => by
        rw [m2.nraf 7012 0 (by decide) (by decide), c4 z (by omega), f11.nraf 7012 0 (by decide)]) (fun i' _ hi' => by
        rw [m2.nraf 7012 0 (by decide) (by decide), show 4 * ((path.length : Nat) : Int) + (i' : Nat) = ((path.length : Nat) : Int) * 4 + (i' : Nat) by omega]
        exact c3 i' hi') ⟨by rw [c23.nrs 6000 1 (by decide) (by decide), f11.nrs 6000 1 (by decide)]; exact Int.le_refl _, fun z _ _ => by rw [c23.nraf 6001 1 (by decide) (by decide), f11.nraf 6001 1 (by decide)]⟩ l3 l1 (Int.le_refl _) (fun K k1' k2' k3' => by
        have he := eclo_ext (N' := (layGv P.1 k (hG s) (hN s)).2.1) k2' k1' l3 fr1 hrep.1
        have hnk := (d3 K he (k1' _ fr2) k3').1
        exact ⟨hnk, eclo_app he hnk⟩) trivial (by rw [c23.nrs 6000 1 (by decide) (by decide), f11.nrs 6000 1 (by decide)]; simp) rfl (fun m hm => by cases hm) (by show (layGv P.1 k (hG s) (hN s)).2.1 ≤ 12 + 120 * sA s; omega) (by show (zu (layGv P.1 k (hG s) (hN s)).1 (layGv P.1 k (hG s) (hN s)).2.1 : Int) ≤ 12 + 52 * sA s; omega) (Nat.le_refl _)
    exact this
  · exfalso
    obtain ⟨ρ, w1, w2⟩ := lgv_uni (T := P.1) hT k0 k1 hgk.1 hgk.2.1 hgk.2.2.1 x0 x1 hcan
    exact d4 ρ ((hrep2.2.2 ρ).mpr w1) w2
end ZTr2
