/-! All scopes are searched: the class. -/
section ZTj
variable {n : Nat} {σ σ1 : jS} {P : zP} {s0 s : zS} {path β : List (Int × Int)} {x me : Int} {ask : Int → zS → Int → zS × zQ} {R : zS × zQ}
theorem c_seek9 {Q : Int → jS → Prop} (hn : 15 ≤ n) (hask : ∀ k, 0 ≤ k → k < tG P.1 → askC P (n - 1 - 1 - 1 - 1) (ask k) (path ++ [(k, x)])) (hR : ∀ k s y, gok s → 0 ≤ y → y < hN s → askR s (ask k s y) 0 0 0) (hT : tok P.1) (hd : path.length < 20) (hg0 : gok s0) (hr0 : rep (hG s0) (hN s0) β (hE s0)) (x0 : 0 ≤ x) (x1 : x < hN s0) (hxl : (ex (hG s0) (hN s0) β x).length ≤ 100) (m0 : 0 ≤ me) (m1 : me < rs σ 6000 1) (hpath : ∀ p, p ∈ path → 0 ≤ p.2 ∧ p.2 < hN s0) (hsv : rs σ 9002 0 ≤ 2 * (100 * ((path.length : Nat) : Int) + zu (hG s0) (hN s0))) (hbN : hN s0 + 120 ≤ 12 + 120 * sA s0) (hbz : (zu (hG s0) (hN s0) : Int) + 52 ≤ 12 + 52 * sA s0)
    (hq : ∀ v σ', sPost P σ σ' s0 path β x me R → (v = match R.2.2.1 with
      | none => 0
      | some t => ((expT (sM R.1) t).length : Int)) → Q v σ') :
    ∀ (m : Nat) (lv sc : Int) (s : zS) (l : Int) (σ1 : jS), lv + (m : Nat) = 6 → 0 ≤ lv → 0 ≤ sc → sc < tS P.1 → spSeek P ask path x m sc lv s = R → sInv P σ σ1 s0 s path β me l → pot s + 24 * (m : Nat) ≤ 200 → J n c_Search_seek (some .int) 9 [some (jo 7 0), some (ji x), some (ji (path.length : Nat)), some (ji me), some (ji sc), some (ji lv), none] [] σ1 (qI Q) := by
  intro m
  induction m with
  | zero =>
    intro lv sc s l σ1 hlv lv0 sc0 sc1 hRR hI hp
    have hI0 := hI
    obtain ⟨a1, a2, a3, a4, a5, a6, a7, a8, ⟨a9, a10⟩, a11, a12⟩ := hI
    refine wp_Search_seek_9 ?_
    rw [if_pos (by omega)]
    have hRe : R = (s, 0, none, noQ) := hRR.symm
    exact hq 0 σ1 (by rw [hRe]; exact sInv_end hI0) (by rw [hRe])
  | succ m ih =>
    intro lv sc s l σ1 hlv lv0 sc0 sc1 hRR hI hp
    obtain ⟨a1, a2, a3, a4, a5, a6, a7, a8, ⟨a9, a10⟩, a11, a12⟩ := hI
    have eG : hG s = hG s0 := by unfold hG; rw [a5]
    have eN : hN s = hN s0 := by unfold hN; rw [a5]
    have eE : hE s = hE s0 := by unfold hE; rw [a5]
    have hcl := canL_len (P := P) (s := s) (x := x) (sc := sc) hT
    have t76 := cC_at a2.2.1 7006 0 1 (by decide)
    obtain ⟨p0, p1, p2, p3⟩ := a2.2.2.2.2.2.2.2.1
    have hl2 : rl σ1 6001 1 ≤ 200000 := by unfold gr3 at p3; omega
    refine wp_Search_seek_9 ?_
    rw [if_neg (by omega), if_neg (by omega), t76]
    refine ⟨by omega, by omega, by omega, c_nset (c := 3) (by omega) m0 (by omega) (by omega) p2 hl2 ?_⟩
    have f3 : sq [(6001, 1)] σ1 (wa σ1 6001 1 (me * 8 + ((3 : Nat) : Int)) lv) := (sq.rf _ σ1).pwa 6001 1 _ _ (by decide)
    have r3 : ra (wa σ1 6001 1 (me * 8 + ((3 : Nat) : Int)) lv) 6001 1 = upI (ra σ1 6001 1) (me * 8 + 3) lv := by
      rw [show me * 8 + ((3 : Nat) : Int) = me * 8 + 3 by omega]
      unfold wa
      rw [raf_wA, if_pos ⟨rfl, rfl⟩]
    generalize hs3 : wa σ1 6001 1 (me * 8 + ((3 : Nat) : Int)) lv = σ3 at f3 r3
    have q3 := f3.cq (l' := [(6001, 1)]) (by decide)
    have hI3 : sInv P σ σ3 s0 s path β me lv := by
      refine ⟨a1.tr (q3.aq (fun p hp => ?_)), cB_plan a2 (f3.mo (by decide)) (by rw [f3.nrs 6000 1 (by decide)]; exact p0) (by rw [f3.nrs 6000 1 (by decide)]; exact Int.le_refl _), ?_, a4.sq f3 (by decide), a5, a6, a7, fun z hz => ?_, ⟨by rw [f3.nrs 6000 1 (by decide)]; exact a9, fun z z0 z1 z2 z3 z4 z5 => ?_⟩, ?_, ?_, fun z z0 z1 => ?_⟩
      · simp at hp
        rw [hp]; unfold askFp; simp
      · rw [f3.nrs 7017 0 (by decide)]; exact a3
      · rw [f3.nra 7012 0 z (by decide)]; exact a8 z hz
      · rw [r3]
        unfold upI
        rw [if_neg z3]
        exact a10 z z0 z1 z2 z3 z4 z5
      · rw [r3]
        unfold upI
        rw [if_pos rfl]
      · rw [f3.nrs 9002 0 (by decide)]; exact a12.1
      · rw [f3.nra 9007 0 z (by decide)]; exact a12.2 z z0 z1
    have hRO := rounds_R (path := path) (lvl := lv) (cds := ((canL P s x sc).length : Nat)) (B := s) hT hR ⟨by rw [eG, eN]; exact hg0.1, by rw [eN]; exact hg0.2.1, by rw [eN, eE]; exact hg0.2.2.1, a6.2.1⟩ x0 (by rw [eN]; exact x1) 24 (canL P s x sc) s 0 (fun k hk => ⟨(canL_mem.mp hk).1, (canL_mem.mp hk).2.1⟩) (Int.le_refl _) a6.2.1 rfl
    refine c_seekAt (σ := σ) (s0 := s0) (s := s) (β := β) (lvl := lv) (ask := ask) (by omega) hask hR hT hd hg0 hr0 x0 x1 hxl m0 m1 hpath hsv hbN hbz sc0 sc1 hI3 (by omega) (fun v σ4 hpo hv => ?_)
    unfold spSeek at hRR
    generalize hTT : spRounds P ask path x lv ((canL P s x sc).length : Nat) 24 (canL P s x sc) s 0 = T at hRR hpo hv hRO
    obtain ⟨r1, r2, r3', r4, r5⟩ := hRO
    have hpo0 := hpo
    obtain ⟨b1, b2, b3, b4, b5, ⟨b6, b6b⟩, ⟨nw, g', N', c1, c2, c3, c4, c5⟩, b9⟩ := hpo
    have fin : R = T → Q v σ4 := fun e => hq v σ4 (by rw [e]; exact hpo0) (by rw [e]; exact hv)
    cases et : T.2.2.1 with
    | some t =>
      rw [et] at hRR hv
      have hRT : R = T := hRR.symm
      have hv1 : v = ((expT (sM T.1) t).length : Int) := hv
      obtain ⟨d1, d2, d3, d4, k, l', c, f, u, sub, d5, -⟩ := c5 t et
      have hvp : 0 < v := by
        rw [hv1, d5, expT_inl, List.length_cons]
        omega
      rw [if_pos (by omega)]
      exact fin hRT
    | none =>
      rw [et] at hRR hv
      have hv0 : v = 0 := hv
      rw [if_neg (fun w => w hv0)]
      dsimp only at hRR
      by_cases qs : T.2.1 = 0
      · rw [if_neg (fun w => w qs)] at hRR
        rw [if_pos (by rw [b3]; exact qs)]
        obtain ⟨-, tx, h2, h3, h4x, h5x, h6, h7, h8, h9⟩ := b2.2.2.1
        rw [h3]
        refine ⟨by omega, wp_Text_aroundOf ⟨by omega, by omega, c_hasScope (by omega) h5x hT ?_⟩⟩
        rw [show (if 0 ≤ sc ∧ sc < tS P.1 then (1 : Int) else 0) = 1 from if_pos ⟨sc0, sc1⟩, if_neg (by decide)]
        have l2 : rl σ4 10002 tx = 8 := by
          rcases h2 with w | w
          · rw [w]; exact cln_at b2.1 10002 0 8 (by decide)
          · rw [w]; exact cln_at b2.1 10002 1 8 (by decide)
        have hS8 := hT.2.1
        refine ⟨by omega, sc0, by omega, ⟨by omega, by omega⟩, ?_⟩
        rw [(h8 sc sc0 sc1).1]
        obtain ⟨u1, u2, u3, u4⟩ := c4 qs et
        by_cases qa : tA P.1 sc = -1
        · rw [if_pos qa] at hRR
          refine wp_Search_seek_9 ?_
          rw [if_pos qa]
          have := fin hRR.symm
          rw [hv0] at this
          split <;> exact this
        · rw [if_neg qa] at hRR
          subst u1
          rw [u2, u3] at c1
          have hsk := (hT.2.2.2.2.1 sc sc0 sc1).1.resolve_left (fun w => qa w.1)
          have hpot := r1.2.2.2.2.2.2.1
          exact ih (lv + 1) (tA P.1 sc) T.1 _ σ4 (by omega) (by omega) hsk.1 (by omega) hRR ⟨b1, b2, by rw [b3]; exact qs, c1, by rw [r5 qs et]; exact a5, a6.gon r1 (by omega), by have := r1.1; omega, b5, ⟨u4, b6b⟩, rfl, b4 qs⟩ (by omega)
      · rw [if_pos qs] at hRR
        rw [if_neg (by rw [b3]; exact qs)]
        exact fin hRR.symm
theorem c_seek {Q : Int → jS → Prop} (hn : 15 ≤ n) (hask : ∀ k, 0 ≤ k → k < tG P.1 → askC P (n - 1 - 1 - 1 - 1) (ask k) (path ++ [(k, x)])) (hR : ∀ k s y, gok s → 0 ≤ y → y < hN s → askR s (ask k s y) 0 0 0) (hT : tok P.1) (hd : path.length < 20) (hB : cB σ P s0 path) (hH : cH σ s0 β) (h0 : nOk s0) (hst : rs σ 7017 0 = 0) (x0 : 0 ≤ x) (x1 : x < hN s0) (hxl : (ex (hG s0) (hN s0) β x).length ≤ 100) (m0 : 0 ≤ me) (m1 : me < rs σ 6000 1) (hpath : ∀ p, p ∈ path → 0 ≤ p.2 ∧ p.2 < hN s0) (hsv : rs σ 9002 0 ≤ 2 * (100 * ((path.length : Nat) : Int) + zu (hG s0) (hN s0))) (hbN : hN s0 + 120 ≤ 12 + 120 * sA s0) (hbz : (zu (hG s0) (hN s0) : Int) + 52 ≤ 12 + 52 * sA s0) (hsc : 0 ≤ P.2.2.2.1 ∧ P.2.2.2.1 < tS P.1) (hp : pot s0 ≤ 56)
    (hq : ∀ v σ', sPost P σ σ' s0 path β x me (spSeek P ask path x 6 P.2.2.2.1 0 s0) → (v = match (spSeek P ask path x 6 P.2.2.2.1 0 s0).2.2.1 with
      | none => 0
      | some t => ((expT (sM (spSeek P ask path x 6 P.2.2.2.1 0 s0).1) t).length : Int)) → Q v σ') : TrI n i_Search_seek [jo 7 0, ji x, ji (path.length : Nat), ji me] σ Q := by
  obtain ⟨hcT, hrep, hgk⟩ := hH
  refine wp_Search_seek ⟨by omega, ?_⟩
  rw [hB.2.2.2.1.2.2.1]
  exact c_seek9 (ask := ask) hn hask hR hT hd hgk hrep x0 x1 hxl m0 m1 hpath hsv hbN hbz hq 6 0 P.2.2.2.1 s0 _ σ (by omega) (Int.le_refl _) hsc.1 hsc.2 rfl ⟨aq.rf σ, hB, hst, hcT, rfl, h0, Int.le_refl _, fun _ _ => rfl, ⟨rfl, fun _ _ _ _ _ _ _ => rfl⟩, rfl, rfl, fun _ _ _ => rfl⟩ (by omega)
end ZTj
