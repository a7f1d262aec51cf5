/-! The best ones are tried: the class, the loop. -/
section ZTf
variable {n : Nat} {σ : jS} {P : zP} {s0 : zS} {path β : List (Int × Int)} {x me lvl cds unt best : Int} {ask : Int → zS → Int → zS × zQ} {R : zS × zQ × Int} {Bl : List Int}
set_option maxRecDepth 8000 in
theorem c_best48 {Q : Int → jS → Prop} (hn : 12 ≤ n) (hask : ∀ k, 0 ≤ k → k < tG P.1 → askC P (n - 1 - 1) (ask k) (path ++ [(k, x)])) (hR : ∀ k s y, gok s → 0 ≤ y → y < hN s → askR s (ask k s y) 0 0 0) (hT : tok P.1) (hd : path.length < 20) (x0 : 0 ≤ x) (x1 : x < hN s0) (hxl : (ex (hG s0) (hN s0) β x).length ≤ 100) (hg0 : gok s0) (hr0 : rep (hG s0) (hN s0) β (hE s0)) (m0 : 0 ≤ me) (m1 : me < rs σ 6000 1) (hS : 0 ≤ rs σ 9002 0) (hpath : ∀ p, p ∈ path → 0 ≤ p.2 ∧ p.2 < hN s0) (hsv : rs σ 9002 0 ≤ 2 * (100 * ((path.length : Nat) : Int) + zu (hG s0) (hN s0))) (hbN : hN s0 + 120 ≤ 12 + 120 * sA s0) (hbz : (zu (hG s0) (hN s0) : Int) + 52 ≤ 12 + 52 * sA s0)
    (hbs : bse best (fun k => k ∈ Bl)) (hcan : ∀ k, k ∈ Bl → ∃ ρ, solE (hG s0) (hN s0) (hE s0) ρ ∧ ∃ θ : Int → List Int, (∀ v, Typ (θ v)) ∧ sbt θ (tR P.1 k 0) = ρ x)
    (hq : ∀ v σ', bPost P σ σ' s0 path β x me R → (v = match R.2.1.2.1 with
      | none => 0
      | some t => ((expT (sM R.1) t).length : Int)) → Q v σ') :
    ∀ (j i : Nat) (s : zS) (f : Int) (one : Option (Int × List zI × List (Int × Int))) (another : Option Int) (z8 z9 z10 z11 : Int) (σ1 : jS), ((i + j : Nat) : Int) = tG P.1 → spBest P ask path x lvl cds unt (ksf Bl i j) s f one another = R → bInv P σ σ1 s0 s path β x me f one another z8 z9 z10 z11 → pot s + ((ksf Bl i j).length : Nat) ≤ 200 → f + (j : Nat) ≤ 1000 → J n c_Search_tryBest (some .int) 48 [some (jo 7 0), some (ji best), some (ji x), some (ji (path.length : Nat)), some (ji me), some (ji (β.length : Nat)), some (ji (rs σ 9002 0)), some (ji (hN s)), some (ji z8), some (ji z9), some (ji z10), some (ji z11), some (ji (i : Nat)), none] [] σ1 (qI Q) := by
  have hG24 := hT.2.2.2.1
  intro j
  induction j with
  | zero =>
    intro i s f one another z8 z9 z10 z11 σ1 hi hRR hI _ _
    exact c_best_end (lvl := lvl) (cds := cds) (unt := unt) (ask := ask) hn x0 x1 hxl hg0 hr0 m0 m1 hS hq (by omega) hRR hI
  | succ j ih =>
    intro i s f one another z8 z9 z10 z11 σ1 hi hRR hI hp hf
    have hI0 := hI
    obtain ⟨a1, a2, a3, a4, a5, a6, a7, a8, a9, a10, ⟨a11, a12, a13⟩, a14, a15, a16, a17, a18⟩ := hI
    obtain ⟨j1, j2, j3, j4, j5⟩ := a7
    obtain ⟨-, tx, h2, h3, h4, h5, h6, h7, h8, h9⟩ := a2.2.2.1
    have t70 := cC_at a2.2.1 7000 0 0 (by decide)
    have ei : ((i : Nat) : Int) + 1 = ((i + 1 : Nat) : Int) := by omega
    have hi2 : (((i + 1) + j : Nat) : Int) = tG P.1 := by omega
    have hrE : ex (hG s) (hN s) β x = ex (hG s0) (hN s0) β x := ex_ext j3 j2 hg0.1 j1 hr0.1 hr0.2.1 x x0 x1
    have hxs : x < hN s := by omega
    have hpathS : ∀ p, p ∈ path → 0 ≤ p.2 ∧ p.2 < hN s := fun p hp => by have := hpath p hp; omega
    have hsv1 : rs σ1 9002 0 ≤ 2 * (100 * (((path.length : Nat) : Int) + 1) + zu (hG s) (hN s)) := by
      have hzm := zu_mono j3 j2 hg0.2.1
      cases one with
      | none => have := a16.2.2.1; omega
      | some o =>
        obtain ⟨-, -, -, -, ⟨nw, w1, -, w2, w3⟩, -⟩ := a16
        have := new_len hg0.1 hr0.1 hr0.2.1 j3 j2 hg0.2.1 x0 x1 w2.1 (fun p hp => ((w3 (kx (hG s0) (hN s0) β x) (fun m hm => Or.inl hm) (kx_clo hg0.1 hr0.1 hr0.2.1) (Or.inr (fun v _ hv => hv))).1 p hp).1)
        omega
    have hbN1 : hN s + 60 ≤ 12 + 120 * sA s := by
      cases one with
      | none => have := j5.2; omega
      | some o => have := j5.2.1; omega
    have hbz1 : (zu (hG s) (hN s) : Int) + 26 ≤ 12 + 52 * sA s := by
      cases one with
      | none => have e1 := j5.1; have e2 := j5.2; rw [e1, e2]; omega
      | some o => have := j5.2.2; omega
    have hz2 : zu (hG s) (hN s) ≤ 20000 := by have := a8.2.1; omega
    refine wp_Search_tryBest_48 ⟨by omega, by omega, ?_⟩
    rw [h3, if_neg (by omega)]
    refine ⟨by omega, c_isIn (by omega) (by omega) ?_⟩
    rw [ksf_s] at hRR hp
    rcases has1_iff hbs (show (0 : Int) ≤ ((i : Nat) : Int) by omega) (by omega) with ⟨e, hc⟩ | ⟨e, hc⟩
    rotate_left
    · rw [if_neg hc] at hRR hp
      rw [e, if_neg (by decide), ei]
      exact ⟨⟨by omega, by omega⟩, ih (i + 1) s f one another z8 z9 z10 z11 σ1 hi2 hRR hI0 (by omega) (by omega)⟩
    rw [if_pos hc] at hRR hp
    rw [List.length_cons] at hp
    rw [e, if_pos (by decide)]
    unfold spBest at hRR
    -- one more has failed: the next one
    have fl : ∀ (r : zM × Int × Int × Int × Int × Int) (σ2 : jS) (nw : List (Int × Int)) (g' : zH) (N' : Int), cT σ2 g' N' (nw ++ β) → agr (hG s) g' (hN s) → hN s ≤ N' → sA s ≤ sA (s.1, r) → nOk (s.1, r) → (∃ M, sM (s.1, r) = sM s ++ M) → aq σ1 σ2 → cB σ2 P (s.1, r) path → rs σ2 7017 0 = 0 → (rs σ2 9002 0 = rs σ1 9002 0 ∧ ∀ z, 0 ≤ z → z < rs σ1 9002 0 → ra σ2 9007 0 z = ra σ1 9007 0 z) → (∀ z : Int, z < 4 * ((path.length : Nat) : Int) → ra σ2 7012 0 z = ra σ1 7012 0 z) → (rs σ1 6000 1 ≤ rs σ2 6000 1 ∧ ∀ z, 0 ≤ z → z < rs σ1 6000 1 * 8 → ra σ2 6001 1 z = ra σ1 6001 1 z) → pot (s.1, r) + ((ksf Bl (i + 1) j).length : Nat) ≤ 200 → spBest P ask path x lvl cds unt (ksf Bl (i + 1) j) (s.1, r) (f + 1) one another = R →
        0 ≤ rs σ2 7006 0 ∧ TrI (n - 1) i_Nodes_get [jo 6 (rs σ2 7006 0), ji me, ji 5] σ2 (fun zr44 zs43 => i32 (zr44 + 1) ∧ 0 ≤ rs σ2 7006 0 ∧ TrV (n - 1) i_Nodes_set [jo 6 (rs σ2 7006 0), ji me, ji 5, ji (zr44 + 1)] zs43 (fun zs47 => 0 ≤ rs zs47 7000 0 ∧ TrV (n - 1) i_Terms_back [jo 9 (rs zs47 7000 0), ji (β.length : Nat), ji (hN s)] zs47 (fun zs50 => 0 ≤ rs zs50 7006 0 ∧ (∀ zs53, zs53 = ws zs50 6000 (rs zs50 7006 0) z8 → i32 (((i : Nat) : Int) + 1) ∧ J n c_Search_tryBest (some .int) 48 [some (jo 7 0), some (ji best), some (ji x), some (ji (path.length : Nat)), some (ji me), some (ji (β.length : Nat)), some (ji (rs σ 9002 0)), some (ji (hN s)), some (ji z8), some (ji z9), some (ji z10), some (ji z11), some (ji (((i : Nat) : Int) + 1)), none] [] zs53 (qI Q))))) := by
      intro r σ2 nw g' N' T ag hNN hA hok hM a B e17 e9 e12 e60 hpo hsp
      refine c_fail (f := f) B m0 (by omega) (by rw [e60.2 _ (by omega) (by omega)]; exact a14) a18 (by omega) (fun σ3 f3 r3 B3 => ?_)
      have t70b := cC_at B3.2.1 7000 0 0 (by decide)
      rw [t70b]
      refine ⟨by omega, ?_⟩
      refine c_bkp (s := s) (K := fun σ4 => i32 (((i : Nat) : Int) + 1) ∧ J n c_Search_tryBest (some .int) 48 [some (jo 7 0), some (ji best), some (ji x), some (ji (path.length : Nat)), some (ji me), some (ji (β.length : Nat)), some (ji (rs σ 9002 0)), some (ji (hN s)), some (ji z8), some (ji z9), some (ji z10), some (ji z11), some (ji (((i : Nat) : Int) + 1)), none] [] σ4 (qI Q)) (by omega) (T.sq f3 (by decide)) ag hNN a6 a5.1 hz2 B3 (by omega) (by rw [f3.nrs 6000 1 (by decide)]; omega) (fun σ4 T4 q4 B4 e4 => ⟨⟨by omega, by omega⟩, ?_⟩)
      rw [ei]
      have q3 := f3.cq (l' := [(6001, 1)]) (by decide)
      refine ih (i + 1) (s.1, r) (f + 1) one another z8 z9 z10 z11 σ4 hi2 hsp (bInv_bk (f' := f + 1) hg0 m0 m1 hI0 hA hok hM ((a.tr (q3.aq (fun p hp => ?_))).tr (q4.aq (fun p hp => ?_))) B4 ?_ T4 (fun z hz => ?_) e4 (fun z z0 z1 z2 => ?_) ?_ (by omega) ?_ (fun z z0 z1 => ?_) hS a17) (by omega) (by omega)
      · simp at hp
        rw [hp]; unfold askFp; simp
      · simp at hp
        rcases hp with w | w | w | w <;> rw [w] <;> unfold askFp <;> simp
      · rw [q4.nrs 7017 0 (by decide) (by decide), f3.nrs 7017 0 (by decide)]; exact e17
      · rw [q4.nraf 7012 0 (by decide) (by decide), f3.nra 7012 0 z (by decide)]; exact e12 z hz
      · rw [q4.nraf 6001 1 (by decide) (by decide), r3]
        unfold upI
        rw [if_neg z2]
        exact e60.2 z z0 (by rw [a11]; exact z1)
      · rw [q4.nraf 6001 1 (by decide) (by decide), r3]
        unfold upI
        rw [if_pos rfl]
      · rw [q4.nrs 9002 0 (by decide) (by decide), f3.nrs 9002 0 (by decide)]; exact e9.1
      · rw [q4.nraf 9007 0 (by decide) (by decide), f3.nra 9007 0 z (by decide)]; exact e9.2 z z0 z1
    refine c_isCut (s := s) (β := β) (by omega) a4 a5 a2.2.1 x0 hxs (by rw [rowE_eq j1 a5 x0 hxs, cno_len, hrE]; exact hxl) (fun d hd' => ?_) (by omega) (by rw [a2.2.2.2.2.1.2.2.1]; have := a8; unfold nOk pot at this; omega) (fun hcut σ2 f2 r2 => ?_) (fun hcut σ2 f2 => ?_)
    · have := a2.2.2.2.2.2.1 d hd'
      have hm := hpathS _ (List.getElem_mem hd')
      exact ⟨this.1, this.2, hm.1, hm.2⟩
    · -- cut off
      rw [if_pos (dcd_iff.mpr hcut)] at hRR
      rw [if_neg (by decide)]
      have q2 := f2.cq (l' := (7002, 0) :: icF) (by decide)
      rw [f2.nrs 7017 0 (by decide), if_pos a3]
      refine fl (sM s, sA s, sMt s, sC s + 1, sTr s, sD s) σ2 [] (hG s) (hN s) (a4.sq f2 (by decide)) (agr.rf _ _) (Int.le_refl _) (Int.le_refl _) ?_ ⟨[], by show sM s = sM s ++ []; simp⟩ (q2.aq (fun p hp => ?_)) (cB_cut a2 q2 (by decide) (by decide) (by decide) (nofl3 (by decide)) ?_ rfl (Int.le_refl _)) (by rw [f2.nrs 7017 0 (by decide)]; exact a3) ⟨f2.nrs 9002 0 (by decide), fun z _ _ => f2.nra 9007 0 z (by decide)⟩ (fun z _ => f2.nra 7012 0 z (by decide)) ⟨by rw [f2.nrs 6000 1 (by decide)]; exact Int.le_refl _, fun z _ _ => f2.nra 6001 1 z (by decide)⟩ ?_ hRR
      · obtain ⟨b1, b2, b3, b4, b5, b6, b7, b8, b9⟩ := a8
        refine ⟨b1, b2, b3, b4, ?_, b6, ?_, b8, b9⟩
        · show 0 ≤ sC s + 1
          omega
        · show sTr s + (sC s + 1) - 144 * sA s ≤ 200
          unfold pot at hp
          omega
      · simp [icF] at hp
        rcases hp with w | w | w | w | w | w | w | w | w <;> rw [w] <;> unfold askFp <;> simp
      · obtain ⟨b1, b2, b3, b4, b5⟩ := a2.2.2.2.2.1
        unfold tly
        rw [r2]
        unfold upI
        refine ⟨?_, ?_, ?_, ?_, ?_⟩
        · rw [if_neg (by decide)]; exact b1
        · rw [if_neg (by decide)]; exact b2
        · rw [if_pos rfl, b3]; rfl
        · rw [if_neg (by decide)]; exact b4
        · rw [if_neg (by decide)]; exact b5
      · show sTr s + (sC s + 1) - 144 * sA s + (((ksf Bl (i + 1) j).length : Nat) : Int) ≤ 200
        unfold pot at hp
        omega
    · -- tried
      rw [if_neg (fun w => hcut (dcd_iff.mp w))] at hRR
      rw [if_pos rfl]
      have q2 := f2.cq (l' := icF) (by decide)
      have B2 := cB_cq2 a2 q2 (by decide) (by decide) (by decide) (nofl3 (by decide))
      have aq2 : aq σ1 σ2 := q2.aq (fun p hp => by
        simp [icF] at hp
        rcases hp with w | w | w | w | w | w | w | w <;> rw [w] <;> unfold askFp <;> simp)
      have k1 : ((i : Nat) : Int) < tG P.1 := by omega
      obtain ⟨t1, t2, t3, t4⟩ := try_R (x := x) hT (hR (i : Nat)) a6 (show (0 : Int) ≤ ((i : Nat) : Int) by omega) k1 x0 hxs
      have hok3 : nOk (spTry P (ask (i : Nat)) (i : Nat) x s).1 := a8.gon t1 (by omega)
      have hln := (lgv_ok (T := P.1) hT (show (0 : Int) ≤ ((i : Nat) : Int) by omega) k1 a6.1 a6.2.1).2.2.2.2.2.2.1
      refine c_tryGiven (s := s) (β := β) (by omega) (hask _ (by omega) k1) (hR (i : Nat)) hT (by omega) k1 hd B2 ⟨a4.sq f2 (by decide), a5, a6⟩ a8 (by omega) (by rw [f2.nrs 7017 0 (by decide)]; exact a3) x0 hxs (by rw [hrE]; exact hxl) hpathS (by rw [f2.nrs 9002 0 (by decide)]; exact hsv1) hbN1 hbz1 (can_ext hg0 j1 j3 j2 j4 x1 (hcan _ hc)) (fun v σ3 hpo hv => ?_)
      obtain ⟨p1, p2, p3, p4, p5, p6, ⟨nw, g', N', p7, p8, p9, p10⟩, p11⟩ := hpo
      have hlen := fun t => spTry_len (P := P) (x := x) (s := s) (ask := ask (i : Nat)) (k := (i : Nat)) (t := t)
      generalize hTR : spTry P (ask (i : Nat)) (i : Nat) x s = TR at hRR t1 t2 t3 t4 hok3 hv p2 p3 p4 p10 p11 hlen
      have ap3 : aq σ1 σ3 := aq2.tr p1
      by_cases qs : TR.2.1 = 0
      rotate_left
      · rw [if_pos qs] at hRR
        have hno := t3 qs
        rw [if_neg (by rw [p3]; exact qs)]
        refine hq 0 σ3 ?_ (by rw [← hRR]; show (0 : Int) = match TR.2.2.1 with | none => 0 | some t => ((expT (sM TR.1) t).length : Int); rw [hno])
        rw [← hRR]
        refine ⟨a1.tr ap3, p2, p3, fun w => absurd w qs, fun z hz => by rw [p5 z hz, f2.nra 7012 0 z (by decide)]; exact a10 z hz, ⟨by have := p6.1; rw [f2.nrs 6000 1 (by decide)] at this; omega, fun z z0 z1 z2 z3 => ?_⟩, fun w => absurd w qs, ⟨nw, g', N', p7, j3.tr p8 j2, by omega, fun w => absurd w qs, fun t ht => ?_⟩, p11⟩
        · rw [p6.2 z z0 (by rw [f2.nrs 6000 1 (by decide)]; omega), f2.nra 6001 1 z (by decide)]
          exact a13 z z0 z1 z2 z3
        · have ht2 : TR.2.2.1 = some t := ht
          rw [hno] at ht2
          cases ht2
      rw [if_neg (fun w => w qs)] at hRR
      rw [if_pos (by rw [p3]; exact qs)]
      obtain ⟨s9, s90⟩ := p4 qs
      rw [f2.nrs 9002 0 (by decide)] at s9 s90
      have s91 : ∀ z, 0 ≤ z → z < rs σ1 9002 0 → ra σ3 9007 0 z = ra σ1 9007 0 z := fun z z0 z1 => by rw [s90 z z0 z1, f2.nra 9007 0 z (by decide)]
      have s12 : ∀ z : Int, z < 4 * ((path.length : Nat) : Int) → ra σ3 7012 0 z = ra σ1 7012 0 z := fun z hz => by rw [p5 z hz, f2.nra 7012 0 z (by decide)]
      have s60 : rs σ1 6000 1 ≤ rs σ3 6000 1 ∧ ∀ z, 0 ≤ z → z < rs σ1 6000 1 * 8 → ra σ3 6001 1 z = ra σ1 6001 1 z := by
        rw [f2.nrs 6000 1 (by decide)] at p6
        exact ⟨p6.1, fun z z0 z1 => by rw [p6.2 z z0 z1, f2.nra 6001 1 z (by decide)]⟩
      have hpo3 : pot TR.1 + (((ksf Bl (i + 1) j).length : Nat) : Int) ≤ 200 := by have := t1.2.2.2.2.2.2.1; omega
      have hAA := t1.1
      have hMM := t1.2.2.2.2.2.2.2.2.2.2
      cases et : TR.2.2.1 with
      | none =>
        rw [et] at hv hRR
        have hv0 : v = 0 := hv
        rw [if_neg (fun w => w hv0)]
        exact fl TR.1.2 σ3 nw g' N' p7 p8 p9 hAA hok3 hMM ap3 p2 (by rw [p3]; exact qs) ⟨s9, s91⟩ s12 s60 hpo3 hRR
      | some t =>
        rw [et] at hv hRR
        have hv1 : v = ((expT (sM TR.1) t).length : Int) + 1 := hv
        have hl200 := hlen t et
        obtain ⟨d1, d2, d3, d4, d5, d6, d7, d8⟩ := p10 t et
        have t70c := cC_at p2.2.1 7000 0 0 (by decide)
        have t76c := cC_at p2.2.1 7006 0 1 (by decide)
        rw [if_pos (by omega)]
        cases one with
        | some o =>
          have ez : z10 = o.1 := a16.1
          have ez0 := a16.2.1
          rw [if_pos (by omega), t70c]
          have nx : ∀ (y11 : Int) (an2 : Option Int), anoI (some o) an2 y11 → spBest P ask path x lvl cds unt (ksf Bl (i + 1) j) (s.1, TR.1.2) f (some o) an2 = R → TrV (n - 1) i_Terms_back [jo 9 0, ji (β.length : Nat), ji (hN s)] σ3 (fun zs21 => 0 ≤ rs zs21 7006 0 ∧ (∀ zs24, zs24 = ws zs21 6000 (rs zs21 7006 0) z8 → i32 (((i : Nat) : Int) + 1) ∧ J n c_Search_tryBest (some .int) 48 [some (jo 7 0), some (ji best), some (ji x), some (ji (path.length : Nat)), some (ji me), some (ji (β.length : Nat)), some (ji (rs σ 9002 0)), some (ji (hN s)), some (ji z8), some (ji z9), some (ji z10), some (ji y11), some (ji (((i : Nat) : Int) + 1)), none] [] zs24 (qI Q))) := by
            intro y11 an2 han hsp
            refine c_bkp (s := s) (K := fun σ4 => i32 (((i : Nat) : Int) + 1) ∧ J n c_Search_tryBest (some .int) 48 [some (jo 7 0), some (ji best), some (ji x), some (ji (path.length : Nat)), some (ji me), some (ji (β.length : Nat)), some (ji (rs σ 9002 0)), some (ji (hN s)), some (ji z8), some (ji z9), some (ji z10), some (ji y11), some (ji (((i : Nat) : Int) + 1)), none] [] σ4 (qI Q)) (by omega) p7 p8 p9 a6 a5.1 hz2 p2 (by omega) (by omega) (fun σ4 T4 q4 B4 e4 => ⟨⟨by omega, by omega⟩, ?_⟩)
            rw [ei]
            refine ih (i + 1) (s.1, TR.1.2) f (some o) an2 z8 z9 z10 y11 σ4 hi2 hsp (bInv_bk (f' := f) hg0 m0 m1 hI0 hAA hok3 hMM (ap3.tr (q4.aq (fun p hp => ?_))) B4 ?_ T4 (fun z hz => ?_) e4 (fun z z0 z1 z2 => ?_) ?_ a18 ?_ (fun z z0 z1 => ?_) hS han) hpo3 (by omega)
            · simp at hp
              rcases hp with w | w | w | w <;> rw [w] <;> unfold askFp <;> simp
            · rw [q4.nrs 7017 0 (by decide) (by decide), p3]; exact qs
            · rw [q4.nraf 7012 0 (by decide) (by decide)]; exact s12 z hz
            · rw [q4.nraf 6001 1 (by decide) (by decide)]
              exact s60.2 z z0 (by rw [a11]; exact z1)
            · rw [q4.nraf 6001 1 (by decide) (by decide), s60.2 _ (by omega) (by omega)]
              exact a14
            · rw [q4.nrs 9002 0 (by decide) (by decide)]; exact s9
            · rw [q4.nraf 9007 0 (by decide) (by decide)]; exact s91 z z0 z1
          cases another with
          | none =>
            have e11 : z11 = -1 := a17
            rw [if_neg (fun w => w e11)]
            exact ⟨by omega, nx _ (some (i : Nat)) ⟨rfl, by omega, o, rfl⟩ hRR⟩
          | some b =>
            obtain ⟨e11, b0, -⟩ := a17
            rw [if_pos (by omega)]
            exact ⟨by omega, nx z11 (some b) ⟨e11, b0, o, rfl⟩ hRR⟩
        | none =>
          obtain ⟨o1, o2, o3, o4⟩ := a16
          obtain ⟨k2, k3⟩ := j5
          rw [if_neg (fun w => w o1), t70c]
          have hNl := new_len a6.1 a5.1 a5.2.1 p8 p9 a6.2.1 x0 hxs d3.1 (fun p hp => ((d4 (kx (hG s) (hN s) β x) (fun m hm => Or.inl hm) (kx_clo a6.1 a5.1 a5.2.1) (Or.inr (fun v _ hv => hv))).1 p hp).1)
          have hgr := t4 t et
          have hzz := hgr.2.2.2.2.2
          rw [← d1, ← d2] at hzz
          have hA200 := t1.2.1
          have hsvd := p2.2.2.2.2.2.2.2.2.1
          have hrN := hgr.2.1
          have hrl : (ex (hG s) (hN s) β x).length ≤ 100 := by rw [hrE]; exact hxl
          refine ⟨by omega, c_save (new := nw) (by omega) p7 p2.2.2.2.2.2.2.2.2.2 hsvd.1 (by omega) hsvd.2.1 hsvd.2.2 (fun σ4 u1 u2 u3 u4 u5 u6 u7 => ?_)⟩
          have B4 : cB σ4 P TR.1 path := cB_sav p2 u2 (by decide) (by decide) (by decide) (by decide) ⟨by omega, u4, u5⟩
          have t70d := cC_at B4.2.1 7000 0 0 (by decide)
          have t76d := cC_at B4.2.1 7006 0 1 (by decide)
          have e90 : rs σ4 9000 0 = N' := u1.1.2.2.2.1
          rw [t70d, t76d, e90]
          refine ⟨by omega, by omega, ?_⟩
          subst d1
          subst d2
          have hzok := hgr.1
          have hgN : gok (((hG TR.1, hN TR.1, hE s), TR.1.2) : zS) := ⟨hzok, u1.1.2.2.2.2.1, eok_mono a6.2.2.1 p9, hA200⟩
          have han : another = none := by
            cases another with
            | none => rfl
            | some b => obtain ⟨-, -, o, ho⟩ := a17; cases ho
          subst han
          have e6 : rs σ4 6000 1 = rs σ 6000 1 + ((t.length : Nat) : Int) := by
            rw [u2.nrs 6000 1 (by decide) (by decide), d6, f2.nrs 6000 1 (by decide), a11, o4]
          refine c_bkp (s := (((hG TR.1, hN TR.1, hE s), TR.1.2) : zS)) (s1 := (((hG TR.1, hN TR.1, hE s), TR.1.2) : zS)) (K := fun σ5 => i32 (((i : Nat) : Int) + 1) ∧ J n c_Search_tryBest (some .int) 48 [some (jo 7 0), some (ji best), some (ji x), some (ji (path.length : Nat)), some (ji me), some (ji (β.length : Nat)), some (ji (rs σ 9002 0)), some (ji (hN TR.1)), some (ji (rs σ4 6000 1)), some (ji v), some (ji (i : Nat)), some (ji z11), some (ji (((i : Nat) : Int) + 1)), none] [] σ5 (qI Q)) (by omega) u1 (agr.rf _ _) (Int.le_refl _) hgN (bok_ext p8 p9 a5.1) u1.1.2.2.2.2.2.2.1 B4 (by omega) (Int.le_refl _) (fun σ5 T5 q5 B5 e5 => ⟨⟨by omega, by omega⟩, ?_⟩)
          rw [ei]
          refine ih (i + 1) (((hG TR.1, hN TR.1, hE s), TR.1.2) : zS) f (some ((i : Nat), t, hE TR.1)) none (rs σ4 6000 1) v (i : Nat) z11 σ5 hi2 hRR ?_ hpo3 (by omega)
          have e95 : rs σ5 9002 0 = rs σ4 9002 0 := q5.nrs 9002 0 (by decide) (by decide)
          have e97 : ra σ5 9007 0 = ra σ4 9007 0 := q5.nraf 9007 0 (by decide) (by decide)
          have e61 : ra σ5 6001 1 = ra σ3 6001 1 := by rw [q5.nraf 6001 1 (by decide) (by decide), u2.nraf 6001 1 (by decide) (by decide)]
          have htl : (tslots me (layGv P.1 (i : Nat) (hG s) (hN s)).2.2.2.length).length = (tN P.1 (i : Nat)).toNat := by
            rw [← hln]; unfold tslots; simp
          refine ⟨((a1.tr ap3).tr (u2.aq (fun p hp => ?_))).tr (q5.aq (fun p hp => ?_)), B5, ?_, T5, rep_ext p8 p9 a6.1 hzok a6.2.2.1 a5, hgN, ⟨hzok, ?_, j3.tr p8 j2, j4, hgr.2.2.2.1, ?_, ?_⟩, hok3, ?_, fun z hz => ?_, ⟨e5, by omega, fun z z0 z1 z2 z3 => ?_⟩, ?_, fun z z0 z1 => ?_, ⟨rfl, ⟨by omega, k1⟩, hv1, by omega, ⟨nw, by omega, ?_, d3, ?_⟩, ?_, e6, ?_, d8⟩, a17, a18⟩
          · simp at hp
            rcases hp with w | w <;> rw [w] <;> unfold askFp <;> simp
          · simp at hp
            rcases hp with w | w | w | w <;> rw [w] <;> unfold askFp <;> simp
          · rw [q5.nrs 7017 0 (by decide) (by decide), u2.nrs 7017 0 (by decide) (by decide), p3]; exact qs
          · show hN s0 ≤ hN TR.1
            omega
          · show hN TR.1 ≤ hN s0 + 60 + 120 * (sA TR.1 - sA s0)
            have := hgr.2.2.2.2.1
            omega
          · show (zu (hG TR.1) (hN TR.1) : Int) ≤ zu (hG s0) (hN s0) + 26 + 52 * (sA TR.1 - sA s0)
            rw [← k2, ← k3]
            omega
          · show sA s0 ≤ sA TR.1
            omega
          · rw [q5.nraf 7012 0 (by decide) (by decide), u2.nraf 7012 0 (by decide) (by decide), s12 z hz]; exact a10 z hz
          · rw [e61, s60.2 z z0 (by omega)]
            exact a13 z z0 z1 z2 z3
          · rw [e61, s60.2 _ (by omega) (by omega)]
            exact a14
          · rw [e97, u7 z z0 (by omega), s91 z z0 (by omega)]
            exact a15 z z0 z1
          · rw [e97, ← o3, ← s9]; exact u6
          · rw [← k2, ← k3]; exact d4
          · have hd5 := d5
            rw [f2.nrs 6000 1 (by decide), a11, o4, hln] at hd5
            exact planS_cong (fun z _ _ => by rw [e61]) hd5
          · rw [← htl]; exact d7
end ZTf
