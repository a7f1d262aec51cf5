/-! Scopes are searched, the nearest first: the class. -/
theorem tbn_len {b : Int} {p : Int → Bool} : ∀ (m : Nat), (∀ k : Int, 0 ≤ k → k < m → (tb b k = true ↔ p k = true)) → tbn m b = (((zrg ((m : Nat) : Int)).filter p).length : Nat) := by
  intro m
  induction m with
  | zero => intro _; rfl
  | succ m ih =>
    intro h
    have e : zrg (((m + 1 : Nat) : Nat) : Int) = zrg ((m : Nat) : Int) ++ [((m : Nat) : Int)] := by
      rw [show (((m + 1 : Nat) : Nat) : Int) = ((m : Nat) : Int) + 1 by omega]
      exact zrg_s (by omega)
    have hm := h m (by omega) (by omega)
    unfold tbn
    rw [ih (fun k k0 k1 => h k k0 (by omega)), e, List.filter_append, List.length_append]
    by_cases q : p ((m : Nat) : Int) = true
    · rw [if_pos (hm.mpr q), List.filter_cons_of_pos q, List.filter_nil, List.length_cons, List.length_nil]
      omega
    · rw [if_neg (fun w => q (hm.mp w)), List.filter_cons_of_neg q, List.filter_nil, List.length_nil]
      omega
theorem zrg_cut {p : Int → Bool} {G : Int} (h0 : 0 ≤ G) (hp : ∀ k, p k = true → k < G) : ∀ j : Nat, (zrg (G + (j : Nat))).filter p = (zrg G).filter p := by
  intro j
  induction j with
  | zero => rw [show G + ((0 : Nat) : Int) = G by omega]
  | succ j ih =>
    rw [show G + ((j + 1 : Nat) : Int) = (G + (j : Nat)) + 1 by omega, zrg_s (by omega), List.filter_append, ih, List.filter_cons_of_neg (fun w => by have := hp _ w; omega), List.filter_nil, List.append_nil]
section ZTi
variable {n : Nat} {σ σ1 : jS} {P : zP} {s0 s : zS} {path β : List (Int × Int)} {x me lvl : Int} {ask : Int → zS → Int → zS × zQ} {R : zS × zQ}
theorem c_seekAt {Q : Int → jS → Prop} {sc : Int} (hn : 14 ≤ n) (hask : ∀ k, 0 ≤ k → k < tG P.1 → askC P (n - 1 - 1 - 1) (ask k) (path ++ [(k, x)])) (hR : ∀ k s y, gok s → 0 ≤ y → y < hN s → askR s (ask k s y) 0 0 0) (hT : tok P.1) (hd : path.length < 20) (hg0 : gok s0) (hr0 : rep (hG s0) (hN s0) β (hE s0)) (x0 : 0 ≤ x) (x1 : x < hN s0) (hxl : (ex (hG s0) (hN s0) β x).length ≤ 100) (m0 : 0 ≤ me) (m1 : me < rs σ 6000 1) (hpath : ∀ p, p ∈ path → 0 ≤ p.2 ∧ p.2 < hN s0) (hsv : rs σ 9002 0 ≤ 2 * (100 * ((path.length : Nat) : Int) + zu (hG s0) (hN s0))) (hbN : hN s0 + 120 ≤ 12 + 120 * sA s0) (hbz : (zu (hG s0) (hN s0) : Int) + 52 ≤ 12 + 52 * sA s0) (sc0 : 0 ≤ sc) (sc1 : sc < tS P.1) (hI : sInv P σ σ1 s0 s path β me lvl) (hp : pot s ≤ 176)
    (hq : ∀ v σ', sPost P σ σ' s0 path β x me (spRounds P ask path x lvl ((canL P s x sc).length : Nat) 24 (canL P s x sc) s 0) → (v = match (spRounds P ask path x lvl ((canL P s x sc).length : Nat) 24 (canL P s x sc) s 0).2.2.1 with
      | none => 0
      | some t => ((expT (sM (spRounds P ask path x lvl ((canL P s x sc).length : Nat) 24 (canL P s x sc) s 0).1) t).length : Int)) → Q v σ') : TrI n i_Search_seekAt [jo 7 0, ji sc, ji x, ji (path.length : Nat), ji me] σ1 Q := by
  obtain ⟨a1, a2, a3, a4, a5, a6, a7, a8, ⟨a9, a10⟩, a11, a12⟩ := hI
  have eG : hG s = hG s0 := by unfold hG; rw [a5]
  have eN : hN s = hN s0 := by unfold hN; rw [a5]
  have eE : hE s = hE s0 := by unfold hE; rw [a5]
  have hG24 := hT.2.2.2.1
  have hA200 := hg0.2.2.2
  have hcl := canL_len (P := P) (s := s) (x := x) (sc := sc) hT
  refine wp_Search_seekAt ⟨by omega, by omega, c_suited (by omega) a4 a2.2.1 a2.2.2.1 hr0 hg0.2.2.1 x0 x1 hxl (by omega) (by omega) sc0 sc1 (fun b σ2 T2 q2 hb => ?_)⟩
  have B2 : cB σ2 P s path := cB_cq2 a2 q2 (by decide) (by decide) (by decide) (nofl3 (by decide))
  have t76 := cC_at B2.2.1 7006 0 1 (by decide)
  obtain ⟨p0, p1, p2, p3⟩ := B2.2.2.2.2.2.2.2.1
  have hl2 : rl σ2 6001 1 ≤ 200000 := by unfold gr3 at p3; omega
  rw [a2.2.2.2.1.1, a2.2.2.2.1.2.1, ← eG, ← eN, ← eE] at hb
  have hb2 : bse b (fun k => k ∈ canL P s x sc) := ⟨hb.1, fun k k0 k1 => (hb.2 k k0 k1).trans canL_mem.symm⟩
  have hb31 : tb b 31 = false := Bool.eq_false_iff.mpr (fun w => by
    have := ((hb.2 31 (by decide) (by decide)).mp w).2.1
    omega)
  have hcnt : tbn 32 b = ((canL P s x sc).length : Nat) := by
    rw [tbn_len (p := fun k => dcd (canP P.1 P.2.1 P.2.2.1 (hG s) (hN s) (hE s) x sc k)) 32 (fun k k0 k1 => by rw [dcd_iff]; exact hb.2 k k0 k1)]
    obtain ⟨j, hj⟩ := Int.eq_ofNat_of_zero_le (show 0 ≤ 32 - tG P.1 by omega)
    rw [show ((32 : Nat) : Int) = tG P.1 + (j : Nat) by omega, zrg_cut hT.2.2.1 (fun k hk => (dcd_iff.mp hk).2.1) j]
    rfl
  refine t_bitCount hb.1 (tb_pos hb.1 hb31) ?_
  rw [hcnt, t76]
  have e60 : rs σ2 6000 1 = rs σ 6000 1 := by rw [q2.nrs 6000 1 (by decide) (by decide)]; exact a9
  refine ⟨by omega, c_nset (c := 4) (by omega) m0 (by omega) (by omega) p2 hl2 ?_⟩
  have f3 : sq [(6001, 1)] σ2 (wa σ2 6001 1 (me * 8 + ((4 : Nat) : Int)) ((canL P s x sc).length : Nat)) := (sq.rf _ σ2).pwa 6001 1 _ _ (by decide)
  have r3 : ra (wa σ2 6001 1 (me * 8 + ((4 : Nat) : Int)) ((canL P s x sc).length : Nat)) 6001 1 = upI (ra σ2 6001 1) (me * 8 + 4) ((canL P s x sc).length : Nat) := by
    rw [show me * 8 + ((4 : Nat) : Int) = me * 8 + 4 by omega]
    unfold wa
    rw [raf_wA, if_pos ⟨rfl, rfl⟩]
  generalize hs3 : wa σ2 6001 1 (me * 8 + ((4 : Nat) : Int)) ((canL P s x sc).length : Nat) = σ3 at f3 r3
  rw [f3.nrs 7006 0 (by decide), t76]
  refine ⟨by omega, c_nset (c := 5) (by omega) m0 (by rw [f3.nrs 6000 1 (by decide)]; omega) (by omega) (by rw [f3.nrs 6000 1 (by decide), f3.nrl 6001 1]; exact p2) (by rw [f3.nrl 6001 1]; exact hl2) ?_⟩
  have f4 : sq [(6001, 1)] σ3 (wa σ3 6001 1 (me * 8 + ((5 : Nat) : Int)) 0) := (sq.rf _ σ3).pwa 6001 1 _ _ (by decide)
  have r4 : ra (wa σ3 6001 1 (me * 8 + ((5 : Nat) : Int)) 0) 6001 1 = upI (ra σ3 6001 1) (me * 8 + 5) 0 := by
    rw [show me * 8 + ((5 : Nat) : Int) = me * 8 + 5 by omega]
    unfold wa
    rw [raf_wA, if_pos ⟨rfl, rfl⟩]
  generalize hs4 : wa σ3 6001 1 (me * 8 + ((5 : Nat) : Int)) 0 = σ4 at f4 r4
  have f24 : sq [(6001, 1)] σ2 σ4 := f3.tr f4
  have q24 := f24.cq (l' := [(6001, 1)]) (by decide)
  have e61 : ∀ z, ¬ z = me * 8 + 4 → ¬ z = me * 8 + 5 → ra σ4 6001 1 z = ra σ1 6001 1 z := fun z z1 z2 => by
    rw [r4, r3]
    unfold upI
    rw [if_neg z2, if_neg z1, q2.nraf 6001 1 (by decide) (by decide)]
  have hI4 : sInv P σ σ4 s0 s path β me lvl := by
    refine ⟨(a1.tr (q2.aq (fun p hp => ?_))).tr (q24.aq (fun p hp => ?_)), cB_plan B2 (f24.mo (by decide)) (by rw [f24.nrs 6000 1 (by decide)]; exact p0) (by rw [f24.nrs 6000 1 (by decide)]; exact Int.le_refl _), ?_, T2.sq f24 (by decide), a5, a6, a7, fun z hz => ?_, ⟨by rw [f24.nrs 6000 1 (by decide)]; exact e60, fun z z0 z1 z2 z3 z4 z5 => ?_⟩, ?_, ?_, fun z z0 z1 => ?_⟩
    · simp [stF] at hp
      rcases hp with w | w | w | w | w | w | w | w | w | w | w <;> rw [w] <;> unfold askFp <;> simp
    · simp at hp
      rw [hp]; unfold askFp; simp
    · rw [f24.nrs 7017 0 (by decide), q2.nrs 7017 0 (by decide) (by decide)]; exact a3
    · rw [f24.nra 7012 0 z (by decide), q2.nraf 7012 0 (by decide) (by decide)]; exact a8 z hz
    · rw [e61 z z4 z5]; exact a10 z z0 z1 z2 z3 z4 z5
    · rw [e61 _ (by omega) (by omega)]; exact a11
    · rw [f24.nrs 9002 0 (by decide), q2.nrs 9002 0 (by decide) (by decide)]; exact a12.1
    · rw [f24.nra 9007 0 z (by decide), q2.nraf 9007 0 (by decide) (by decide)]; exact a12.2 z z0 z1
  refine c_seekAt37 (lvl := lvl) (cds := ((canL P s x sc).length : Nat)) (ask := ask) (by omega) hask hR hT hd hg0 hr0 x0 x1 hxl m0 m1 hpath hsv hbN hbz hq (fun s' σ' hI' he => hq 0 σ' (by rw [he]; exact sInv_end hI') (by rw [he])) 24 0 (canL P s x sc) s 0 b σ4 rfl rfl hI4 ?_ ?_ (Int.le_refl _) hb2 ⟨_, rfl⟩ (fun k hk => ?_) (by omega) (by omega)
  · rw [r4, r3]
    unfold upI
    rw [if_neg (by omega), if_pos rfl]
  · rw [r4]
    unfold upI
    rw [if_pos rfl]
  · have := (canL_mem.mp hk).2.2.2.2.2
    rw [eG, eN, eE] at this
    exact this
end ZTi
