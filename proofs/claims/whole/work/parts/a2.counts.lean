/-! How many values: a count is kept, the class. -/
section ZVd
variable {n : Nat} {σ σ1 σ2 : jS} {g : zH} {N may o : Int} {β : List (Int × Int)} {T : zT} {M : zM} {r : List Int}
set_option maxRecDepth 4000 in
theorem c_ckeep {Q : jS → Prop} {d : Nat} (hn : 6 ≤ n) (hZ : cZ σ T M) (hT : cT σ g N β) (hk : cvK σ T may) (hr : fR σ 243 r) (hcl : clr r) (h104 : ∀ t, t ∈ r → t < 104)
    (hq : ∀ σ', kq vFp σ σ' → cZ σ' T M → cT σ' g N β → cvK σ' T may → (∀ z, ra σ' 7012 0 z = ra σ 7012 0 z) → Q σ') : TrV n i_Counts_keep [jo 2 0, jo 0 243, ji d, ji (vl T may d r)] σ Q := by
  refine Tr_known (fun hW => ?_)
  obtain ⟨-, -, -, -, hWk, -, hWl⟩ := hW
  have hZ0 := hZ
  have hk0 := hk
  obtain ⟨hc, hC, z3, hM, z5, z6, z7⟩ := hZ
  have g243 : rl σ 0 243 = 100 := hC.2.1 (243, 100) (by decide)
  have g250 : rl σ 0 250 = 12 := hC.2.1 (250, 12) (by decide)
  have hk250 : 250 < rk σ 0 := hWl 0 250 (by omega) (by omega)
  have l0 := cln_at hc 2000 0 128 (by decide)
  have l1 := cln_at hc 2001 0 128 (by decide)
  have l2 := cln_at hc 2002 0 128 (by decide)
  obtain ⟨m1, m2, m3, m4, m5, m6, m7, m8, m9, m10, m11, m12, hK⟩ := hM
  have hK0 := hK
  obtain ⟨y0, y1, y2, y3⟩ := hK
  have hcn := cnP_le (ra σ 5005 0) 40
  have hcn2 := cnP_le (ra σ 2000 0) 128
  obtain ⟨⟨k1, k2, k3⟩, k4⟩ := hk
  refine wp_Counts_keep ⟨by omega, ?_⟩
  by_cases ql : r.length ≤ 100
  · have hf := hr.fT ql (by omega) g243
    rw [cno_cl hcl] at hf
    have e243 := hf.2.1
    rw [if_pos (by omega)]
    have fin : ∀ (σ1 : jS) (o a : Int), kpq o σ σ1 → kq vFp σ σ1 → 251 ≤ o → o < rk σ1 0 → rl σ1 0 o = 100 → ra σ1 2000 0 = upI (ra σ 2000 0) a o → rs σ1 2003 0 = rs σ 2003 0 → ra σ1 2001 0 = ra σ 2001 0 → ra σ1 2002 0 = ra σ 2002 0 → rkK σ1 → jnG σ1 → (∀ j : Int, 0 ≤ j → j < 40 → 0 ≤ ra σ 5005 0 j → ¬ ra σ 5005 0 j = o) → (∀ j : Int, 0 ≤ j → j < 128 → ¬ j = a → 0 ≤ ra σ 2000 0 j → ¬ ra σ 2000 0 j = o) → 0 ≤ a → a < 128 → a ≤ rs σ 2003 0 → J n c_Counts_keep none 63 [some (jo 2 0), some (jo 0 243), some (ji d), some (ji (vl T may d r)), some (ji a)] [] σ1 (qV Q) := by
      intro σ1 o a hp hkq ho1 ho2 hol h20 h23 h21 h22 hK1 hj1 hne hne2 a0 a1 a2
      have t0 : rl σ1 2000 0 = 128 := by rw [hp.2 2000 (by decide)]; exact l0
      have t1 : rl σ1 2001 0 = 128 := by rw [hp.2 2001 (by decide)]; exact l1
      have t2 : rl σ1 2002 0 = 128 := by rw [hp.2 2002 (by decide)]; exact l2
      have hoA : ra σ1 2000 0 a = o := by rw [h20]; unfold upI; rw [if_pos rfl]
      have x243 := hp.1 0 243 (by decide) (fun w => absurd w.1 (by decide)) (fun w => by have := w.2; omega)
      have y243 := hp.1 1 243 (by decide) (fun w => absurd w.1 (by decide)) (fun w => by have := w.2; omega)
      refine wp_Counts_keep_63 ⟨by omega, by omega, a0, by omega, by omega, by omega, by omega, ?_⟩
      rw [hoA]
      refine c_take (by omega) (by omega) (by omega) (by omega) (by omega) (by rw [x243.2.2]; omega) (by rw [x243.2.2]; omega) (fun s8 f8 v8 u8 => ?_)
      rw [f8.nrl 2001 0, t1]
      refine ⟨by omega, by omega, fun s11 e11 => ?_⟩
      have f11 : sq [(2001, 0), (2002, 0), (2003, 0), (2004, 0)] s8 s11 := by rw [e11]; exact (sq.rf _ s8).pwa 2001 0 _ _ (by decide)
      rw [f11.nrl 2002 0, f8.nrl 2002 0, t2]
      refine ⟨by omega, by omega, fun s14 e14 => ?_⟩
      have f14 : sq [(2001, 0), (2002, 0), (2003, 0), (2004, 0)] s8 s14 := by rw [e14]; exact f11.pwa 2002 0 _ _ (by decide)
      refine ⟨⟨by omega, by omega⟩, fun s17 e17 s18 e18 => ?_⟩
      have f17 : sq [(2001, 0), (2002, 0), (2003, 0), (2004, 0)] s8 s17 := by rw [e17]; exact f14.pws 2004 0 _ (by decide)
      have f18 : sq [(2001, 0), (2002, 0), (2003, 0), (2004, 0)] s8 s18 := by rw [e18]; exact f17.pws 2003 0 _ (by decide)
      have r17 : rs s17 2004 0 = a + 1 := by rw [e17, rs_ws, if_pos ⟨rfl, rfl⟩]
      have r17b : rs s17 2003 0 = rs σ 2003 0 := by
        rw [e17, rs_ws, if_neg (by decide), e14, e11]
        show rs s8 2003 0 = _
        rw [f8.nrs 2003 0 (by simp)]; exact h23
      have r18 : rs s18 2003 0 = max (rs σ 2003 0) (a + 1) := by rw [e18, rs_ws, if_pos ⟨rfl, rfl⟩, r17, r17b]
      have r18b : rs s18 2004 0 = a + 1 := by rw [e18, rs_ws, if_neg (by decide)]; exact r17
      have a21 : ra s18 2001 0 = upI (ra σ 2001 0) a ((d : Nat) : Int) := by
        rw [show ra s18 2001 0 = ra s11 2001 0 by rw [e18, e17, e14]; rfl, e11]
        unfold wa
        rw [raf_wA, if_pos ⟨rfl, rfl⟩, f8.nraf 2001 0 (by simp), h21]
      have a22 : ra s18 2002 0 = upI (ra σ 2002 0) a (vl T may d r) := by
        rw [show ra s18 2002 0 = ra s14 2002 0 by rw [e18, e17]; rfl, e14]
        unfold wa
        rw [raf_wA, if_pos ⟨rfl, rfl⟩, show ra s11 2002 0 = ra s8 2002 0 by rw [e11]; rfl, f8.nraf 2002 0 (by simp), h22]
      have a20 : ra s18 2000 0 = upI (ra σ 2000 0) a o := by rw [f18.nraf 2000 0 (by decide), f8.nraf 2000 0 (by simp)]; exact h20
      have p18 : kpq o σ s18 := (hp.tr (f8.kpq (fun p hp => by
        simp at hp
        rcases hp with w | w <;> rw [w] <;> simp))).tr (f18.kpq (fun p hp => by
        simp at hp
        rcases hp with w | w | w | w <;> rw [w] <;> simp))
      have kk : rk s18 0 = rk σ1 0 := by rw [f18.2.2.1, f8.2.2.1]
      have hkq2 := hkq.2.2.1
      have q8 : kq vFp σ1 s8 := sq_kq f8 (by simp) (fun p hp => by
        simp at hp
        unfold vFp
        rcases hp with w | w <;> rw [w] <;> simp <;> omega)
      have q18 : kq vFp s8 s18 := sq_kq f18 (by decide) (fun p hp => by
        simp at hp
        unfold vFp
        rcases hp with w | w | w | w <;> rw [w] <;> simp)
      have hK18 : rkK s18 := rkK_cg hK1 kk (by rw [f18.nraf 5005 0 (by decide), f8.nraf 5005 0 (by simp)]) (by rw [f18.nraf 2000 0 (by decide), f8.nraf 2000 0 (by simp)]) (fun x _ => by rw [f18.nrl, f8.nrl])
      have hT18 : fT s18 o r := by
        obtain ⟨c1, c2, c3, c4⟩ := hf
        refine ⟨by omega, ?_, ?_, fun i hi => ?_⟩
        · rw [f18.nrs 1 o (by simp), v8, y243.1]; exact c2
        · rw [f18.nrl, f8.nrl]; omega
        · rw [f18.nraf 0 o (by simp), u8 _ (by omega) (by rw [y243.1]; omega) (by rw [x243.2.2]; omega) (by omega), x243.2.1]; exact c4 i hi
      refine hq s18 ((hkq.tr q8).tr q18) (p18.cZ hZ0 ho1 hne (by omega) hK18 (((f18.cq (l' := [(2001, 0), (2002, 0), (2003, 0), (2004, 0)]) (by decide)).2.2.2.2) (((f8.cq (l' := [(0, o), (1, o)]) (by simp)).2.2.2.2) hj1))) (p18.cT hT) ⟨⟨by omega, by omega, by omega⟩, fun i i0 i1 => ?_⟩ (fun z => by rw [(p18.1 7012 0 (by decide) (by decide) (fun w => absurd w.1 (by decide))).2.1])
      rw [a20, a21, a22]
      unfold upI
      by_cases qi : i = a
      · rw [if_pos qi, if_pos qi, if_pos qi]
        exact ⟨by omega, r, d, hT18, ql, hcl, h104, rfl, rfl⟩
      · rw [if_neg qi, if_neg qi, if_neg qi]
        obtain ⟨c1, rr, dd, c2, c3, c4, c5, c6, c7⟩ := k4 i i0 (by omega)
        have hn2 := hne2 i i0 (by omega) qi c1
        have b1 := p18.1 1 (ra σ 2000 0 i) (by decide) (fun w => absurd w.1 (by decide)) (fun w => hn2 w.2)
        have b0 := p18.1 0 (ra σ 2000 0 i) (by decide) (fun w => absurd w.1 (by decide)) (fun w => hn2 w.2)
        refine ⟨c1, rr, dd, ?_, c3, c4, c5, c6, c7⟩
        unfold fT
        rw [b1.1, b0.2.1, b0.2.2]
        exact c2
    -- a Flat that is there
    have old : ∀ a : Int, 0 ≤ a → a < 128 → a ≤ rs σ 2003 0 → ¬ ra σ 2000 0 a < 0 → J n c_Counts_keep none 63 [some (jo 2 0), some (jo 0 243), some (ji d), some (ji (vl T may d r)), some (ji a)] [] σ (qV Q) := by
      intro a a0 a1 a2 q
      have e20 : ra σ 2000 0 = upI (ra σ 2000 0) a (ra σ 2000 0 a) := funext (fun i => by
        unfold upI
        by_cases w : i = a
        · rw [if_pos w, w]
        · rw [if_neg w])
      obtain ⟨d1, d2, d3⟩ := y3 a a0 a1 (by omega)
      exact fin σ _ a ⟨fun F x _ _ _ => ⟨rfl, rfl, rfl⟩, fun _ _ => rfl⟩ (kq.rf _ σ) d1 d2 d3 e20 rfl rfl rfl hK0 z7 (fun j j0 j1 hp => y1 j a j0 j1 a0 a1 hp (by omega)) (fun j j0 j1 hj hp e => hj (y2 j a j0 j1 a0 a1 hp e)) a0 a1 a2
    refine ⟨by omega, ?_⟩
    rw [if_neg (by omega)]
    by_cases q28 : 128 ≤ rs σ 2004 0
    · rw [if_pos q28]
      refine wp_Counts_keep_34 ⟨by omega, by omega, by omega, ?_⟩
      have e0 := (k4 0 (by omega) (by omega)).1
      rw [if_neg (by omega)]
      exact old 0 (by omega) (by omega) (by omega) (by omega)
    · rw [if_neg q28]
      refine ⟨by omega, by omega, by omega, ?_⟩
      by_cases q : ra σ 2000 0 (rs σ 2004 0) < 0
      · rw [if_pos q]
        obtain ⟨L, hL⟩ := Int.eq_ofNat_of_zero_le k1
        rw [hL] at q ⊢
        refine ⟨by omega, by omega, fun s5 e5 => ⟨by omega, wp_Flat_init ⟨by omega, by omega, by omega, by omega, fun s3 e3 => ⟨?_, fun s6 e6 => ?_⟩⟩⟩⟩
        · rw [e3, rl_nA, if_neg (fun w => by have := w.1; unfold jtmp at this; omega), e5, rl_nO]
          rcases Int.lt_or_le (rl σ 0 (rk σ 0)) 0 with w | w
          · exact w
          · have : rk σ 0 < rk σ 0 := hWl 0 (rk σ 0) w (by omega)
            omega
        · have d2 : rl s6 2000 0 = 128 := by
            rw [e6, rl_mA, if_neg (by omega), if_neg (fun w => by have := w.1; unfold jtmp at this; omega), e3, rl_nA, if_neg (fun w => by have := w.1; unfold jtmp at this; omega), e5, rl_nO]; exact l0
          have d3 : ra s6 2000 0 = ra σ 2000 0 := by
            rw [e6, raf_mA, if_neg (by omega), e3, raf_nA, if_neg (fun w => by have := w.1; unfold jtmp at this; omega), e5, raf_nO]
          have dk : ∀ c, rk s6 c = if c = 0 then rk σ 0 + 1 else rk σ c := fun c => by
            rw [e6, rk_mA, e3, rk_nA, e5, rk_nO]
          rw [d2]
          refine ⟨by omega, by omega, by omega, fun s11 e11 => ?_⟩
          have w1 : ∀ F x, rs s11 F x = rs s6 F x := fun F x => by rw [e11]; rfl
          have w2 : ∀ F x, rl s11 F x = rl s6 F x := fun F x => by rw [e11]; rfl
          have w3 : ra s11 2000 0 = upI (ra σ 2000 0) (L : Nat) (rk σ 0) := by
            rw [e11]
            unfold wa
            rw [raf_wA, if_pos ⟨rfl, rfl⟩, d3]
          have w4 : ∀ F x, ¬ (F = 2000 ∧ x = 0) → ra s11 F x = ra s6 F x := fun F x hx => by
            rw [e11]
            unfold wa
            rw [raf_wA, if_neg hx]
          have w5 : ∀ c, rk s11 c = if c = 0 then rk σ 0 + 1 else rk σ c := fun c => by rw [e11]; exact dk c
          have w6 : ∀ F x, F < 900000 → rl s6 F x = if F = 0 ∧ x = rk σ 0 then 100 else rl σ F x := fun F x hF => by
            have hj : ¬ (F = jtmp 0 ∧ x = 0) := fun w => by have := w.1; unfold jtmp at this; omega
            rw [e6, rl_mA]
            by_cases w : F = 0 ∧ x = rk σ 0
            · rw [if_pos w, if_pos w, e3, rl_nA, if_pos ⟨rfl, rfl⟩]; decide
            · rw [if_neg w, if_neg w, if_neg hj, e3, rl_nA, if_neg hj, e5, rl_nO]
          have hfr : ∀ F x, F < 900000 → ¬ (F = 2000 ∧ x = 0) → ¬ (F / 1000 = 0 ∧ x = rk σ 0) → rs s11 F x = rs σ F x ∧ ra s11 F x = ra σ F x ∧ rl s11 F x = rl σ F x := fun F x hF h1 h2 => by
            have hj : ¬ (F = jtmp 0 ∧ x = 0) := fun w => by have := w.1; unfold jtmp at this; omega
            refine ⟨?_, ?_, ?_⟩
            · rw [w1, e6, rs_mA, e3, rs_nA, e5, rs_nO, if_neg h2]
            · rw [w4 F x h1, e6, raf_mA, if_neg (fun w => h2 ⟨by rw [w.1], w.2⟩), e3, raf_nA, if_neg hj, e5, raf_nO]
            · rw [w2, w6 F x hF, if_neg (fun w => h2 ⟨by rw [w.1], w.2⟩)]
          have hlens : lens s11 = lens σ := by
            unfold lens
            refine congrArg List.sum (List.map_congr_left (fun p hp => ?_))
            have h1 : ∀ p, p ∈ lenT → p.1 < 900000 ∧ 1000 ≤ p.1 := by decide
            obtain ⟨h2, h3⟩ := h1 p hp
            rw [w2, w6 _ _ h2, if_neg (by omega)]
          have hj11 : jnG σ → jnG s11 := fun hG => jnG_l hG (fun hT t => by
            rw [w2, e6, rl_mA, if_neg (fun w => by have := w.1; unfold jtmp at this; omega)]
            by_cases w : jtmp t = jtmp 0
            · rw [if_pos ⟨w, rfl⟩]; decide
            · rw [if_neg (fun w2 => w w2.1), e3, rl_nA, if_neg (fun w2 => w w2.1), e5, rl_nO]
              exact hT t) (by rw [w2, w6 _ _ (by decide), if_neg (by omega)]) (by rw [w2, w6 _ _ (by decide), if_neg (by omega)]) (by
                have r1 : rc s11 = rc σ + 2 := by rw [show rc s11 = rc s6 by rw [e11]; rfl, e6, rc_mA, e3, rc_nA, e5, rc_nO]; omega
                rw [hlens, w5, if_pos rfl, r1]
                omega) (by
                rw [hlens, w5, if_pos rfl, show rz s11 = rz s6 by rw [e11]; rfl, e6, rz_mA, e3, rz_nA, e5, rz_nO, show (ax_nf 0 : Int) = 2 by decide]
                omega)
          have hkq : kq vFp σ s11 := by
            refine ⟨fun F x hF hx => ?_, fun c hc => by rw [w5, if_neg hc], by rw [w5, if_pos rfl]; omega, ⟨?_, ?_, ?_⟩, hj11⟩
            · obtain ⟨a1, a2, a3⟩ := hfr F x hF (fun w => hx (by unfold vFp; rw [w.1, w.2]; simp)) (fun w => hx (by unfold vFp; omega))
              exact ⟨a1, fun i => by rw [a2], a3⟩
            · rw [hlens, w5, if_pos rfl, show rz s11 = rz s6 by rw [e11]; rfl, e6, rz_mA, e3, rz_nA, e5, rz_nO, show (ax_nf 0 : Int) = 2 by decide]
              omega
            · rw [hlens, w5, if_pos rfl, show rc s11 = rc s6 by rw [e11]; rfl, e6, rc_mA, e3, rc_nA, e5, rc_nO]
              omega
            · rw [hlens]; exact Int.le_refl _
          have hp : kpq (rk σ 0) σ s11 := ⟨fun F x hF h1 h2 => hfr F x hF (fun w => h1 (by rw [w.1, w.2]; decide)) h2, fun F hF => by
            rw [w2, w6 F 0 (by omega), if_neg (by omega)]⟩
          have a55 : ra s11 5005 0 = ra σ 5005 0 := (hfr 5005 0 (by decide) (by decide) (fun w => absurd w.1 (by decide))).2.1
          have hK11 : rkK s11 := by
            unfold rkK
            rw [w5, if_pos rfl, a55, w3]
            refine ⟨by rw [cnP_up (by omega) q (by omega)]; omega, fun i j i0 i1 j0 j1 p0 p1 => ?_, fun i j i0 i1 j0 j1 p0 e => ?_, fun j j0 j1 p0 => ?_⟩
            · unfold upI at p1 ⊢
              have := (m5 i i0 i1 p0).2.1
              by_cases qj : j = ((L : Nat) : Int)
              · rw [if_pos qj]; omega
              · rw [if_neg qj] at p1 ⊢
                exact y1 i j i0 i1 j0 j1 p0 p1
            · unfold upI at p0 e
              by_cases qi : i = ((L : Nat) : Int)
              · by_cases qj : j = ((L : Nat) : Int)
                · omega
                · rw [if_pos qi, if_neg qj] at e
                  have := (y3 j j0 j1 (by omega)).2.1
                  omega
              · rw [if_neg qi] at p0 e
                by_cases qj : j = ((L : Nat) : Int)
                · rw [if_pos qj] at e
                  have := (y3 i i0 i1 p0).2.1
                  omega
                · rw [if_neg qj] at e
                  exact y2 i j i0 i1 j0 j1 p0 e
            · unfold upI at p0 ⊢
              by_cases qj : j = ((L : Nat) : Int)
              · rw [if_pos qj]
                exact ⟨by omega, by omega, by rw [w2, w6 _ _ (by decide), if_pos ⟨rfl, rfl⟩]⟩
              · rw [if_neg qj] at p0 ⊢
                obtain ⟨c1, c2, c3⟩ := y3 j j0 j1 p0
                refine ⟨c1, by omega, ?_⟩
                rw [w2, w6 _ _ (by decide), if_neg (fun w => by have := w.2; omega)]
                exact c3
          exact fin s11 (rk σ 0) (L : Nat) hp hkq (by omega) (by rw [w5, if_pos rfl]; omega) (by rw [w2, w6 _ _ (by decide), if_pos ⟨rfl, rfl⟩]) w3 ((w1 2003 0).trans (by rw [e6, rs_mA, e3, rs_nA, e5, rs_nO, if_neg (fun w => by have := w.1; omega)])) (by rw [w4 2001 0 (by decide), e6, raf_mA, if_neg (by omega), e3, raf_nA, if_neg (fun w => by have := w.1; unfold jtmp at this; omega), e5, raf_nO]) (by rw [w4 2002 0 (by decide), e6, raf_mA, if_neg (by omega), e3, raf_nA, if_neg (fun w => by have := w.1; unfold jtmp at this; omega), e5, raf_nO]) hK11 (hj11 z7) (fun j j0 j1 hp => by have := (m5 j j0 j1 hp).2.1; omega) (fun j j0 j1 hj hp => by have := (y3 j j0 j1 hp).2.1; omega) (by omega) (by omega) (by omega)
      · rw [if_neg q]
        exact old (rs σ 2004 0) k1 (by omega) k2 q
  · have := hr.1
    rw [if_neg ql] at this
    rw [if_neg (by omega)]
    exact hq σ (kq.rf _ σ) hZ0 hT hk0 (fun _ => rfl)
end ZVd
