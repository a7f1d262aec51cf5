/-! A remembered goal's tree is planted: the class. -/
section ZPs
variable {n : Nat} {σ σ1 σ2 : jS} {nb fb base : Int} {M : zM}
/-- a node more, out of a row whose goal stands in Flat 243 -/
theorem c_fgr {Q : jS → Prop} {o2 k a b : Int} {z : zN} (hn : 4 ≤ n) (hf : (fb = 0 ∧ nb = 0) ∨ (fb = 1 ∧ nb = 2)) (ho2 : o2 = 0 ∨ o2 = 1) (hC : cC σ) (k0 : 0 ≤ k) (k1 : k < rs σ 6000 o2) (l2 : rs σ 6000 o2 * 8 ≤ rl σ 6001 o2) (g2 : gr3 (rl σ 6001 o2)) (hF : fok nb fb σ) (hr : rs σ 6000 nb < 8000) (hs : rs σ 1 243 = if (z.2.2.2.2.2.2.2.getD []).length ≤ 100 then (((z.2.2.2.2.2.2.2.getD []).length : Nat) : Int) else 101) (ht : (z.2.2.2.2.2.2.2.getD []).length ≤ 100 → fT σ 243 (z.2.2.2.2.2.2.2.getD [])) (hz0 : ra σ 6001 o2 (k * 8 + 0) = z.1) (hz3 : ra σ 6001 o2 (k * 8 + 3) = z.2.1) (hz4 : ra σ 6001 o2 (k * 8 + 4) = z.2.2.1) (hz5 : ra σ 6001 o2 (k * 8 + 5) = z.2.2.2.1)
    (hq : ∀ σ', fgr false nb fb 1 σ σ' → forN σ' nb fb (rs σ 6000 nb) z (a, b) → Q σ') : TrV n i_Forest_add [jo 3 fb, jo 0 243, jo 6 o2, ji k, ji a, ji b] σ Q := by
  obtain ⟨f1, f2, f3, f4, f5, f6, f7⟩ := hF
  have hfb : rs σ 3000 fb = nb := by
    rcases hf with ⟨w, w2⟩ | ⟨w, w2⟩
    · rw [w, w2]; exact cC_at hC 3000 0 0 (by decide)
    · rw [w, w2]; exact cC_at hC 3000 1 2 (by decide)
  refine c_fadd (r := z.2.2.2.2.2.2.2.getD []) hn hf ho2 hfb k0 k1 l2 g2 f1 (by omega) f2 f3 f4 (by omega) f6 f7 hs ht hz0 hz3 hz4 hz5 rfl (fun σ' q1 q2 q3 q4 q5 q6 q7 q8 q9 q10 q11 => hq σ' ⟨q1.mo (by simp [pgF]), q2, ⟨by omega, q3, q4, by omega, by omega, q8, q9⟩, q5, q6, q10⟩ q11)
theorem c_plantRem {Q : jS → Prop} {m : Nat} {a b : Int} (hn : 5 ≤ n) (hf : (fb = 0 ∧ nb = 0) ∨ (fb = 1 ∧ nb = 2)) (hc : cln σ) (hC : cC σ) (hM : memQ σ M) (hF : fok nb fb σ) (hm : m < M.length) (hroom : rs σ 6000 nb + ((memT M m).length : Nat) ≤ 8000) (hroom0 : rs σ 6000 0 ≤ 8000) (hb0 : 0 ≤ base) (hb1 : base ≤ rs σ 6000 nb)
    (hq : ∀ σ', fgr false nb fb ((memT M m).length : Nat) σ σ' → treeW σ' nb fb base (rs σ 6000 nb - base) [(a, b)] (memT M m) → Q σ') : TrV n i_Search_plantRemembered [jo 7 0, ji ((m : Nat) : Int), jo 3 fb, ji base, ji a, ji b] σ Q := by
  have t71 := cC_at hC 7001 0 0 (by decide)
  have hfb : rs σ 3000 fb = nb := by
    rcases hf with ⟨w, w2⟩ | ⟨w, w2⟩
    · rw [w, w2]; exact cC_at hC 3000 0 0 (by decide)
    · rw [w, w2]; exact cC_at hC 3000 1 2 (by decide)
  have l51 := cln_at hc 5001 0 40 (by decide)
  have l52 := cln_at hc 5002 0 40 (by decide)
  have hM0 := hM
  obtain ⟨h1, h2, h3, h4, h5⟩ := hM
  obtain ⟨c1, c2, c3, c4, c5⟩ := h3 m hm
  have em := memT_at hm
  rw [← em] at c1 c3 c4 c5
  have hFm : 0 ≤ memL M m := memL_0 m
  have hat := memL_at hm
  rw [← em] at hat
  obtain ⟨F1, F2, F3, F4, F5, F6, F7⟩ := hF
  generalize hT0 : rs σ 6000 nb = T0 at hroom hb1 hq F1 F2 F5
  refine wp_Search_plantRemembered ⟨by omega, by omega, ?_⟩
  rw [hfb, hT0, t71]
  refine ⟨⟨by omega, by omega⟩, by omega, by omega, by omega, wp_Memory_fromOf ?_⟩
  rw [if_neg (by omega), if_neg (by omega), l52, c2]
  refine ⟨by omega, by omega, by omega, by omega, ?_⟩
  have hbig : memL M M.length ≤ 8000 := by omega
  have loop : ∀ (d i : Nat) (σ1 : jS), i + d = (memT M m).length → fgr false nb fb (i : Nat) σ σ1 → treeW σ1 nb fb base (T0 - base) [(a, b)] ((memT M m).take i) → J n c_Search_plantRemembered none 24 [some (jo 7 0), some (ji ((m : Nat) : Int)), some (jo 3 fb), none, some (ji a), some (ji b), some (ji (T0 - base)), some (ji (memL M m)), some (ji (i : Nat)), none, none] [] σ1 (qV Q) := by
    intro d
    induction d with
    | zero =>
      intro i σ1 hi g1 w1
      have hC1 : cC σ1 := hC.cq g1.1 (by rcases hf with ⟨w, w2⟩ | ⟨w, w2⟩ <;> rw [w, w2] <;> decide)
      have hc1 : cln σ1 := hc.cq g1.1
      have hM1 := hM0.fgr g1 hf (by omega)
      obtain ⟨k1, k2, k3, k4, k5⟩ := hM1
      obtain ⟨d1, d2, d3, d4, d5⟩ := k3 m hm
      rw [← em] at d1
      refine wp_Search_plantRemembered_24 ⟨by omega, by omega, ?_⟩
      rw [cC_at hC1 7001 0 0 (by decide)]
      refine ⟨by omega, wp_Memory_nodesOf ?_⟩
      rw [if_neg (by omega), if_neg (by omega), cln_at hc1 5001 0 40 (by decide), d1]
      refine ⟨by omega, by omega, by omega, by omega, ?_⟩
      rw [if_pos (by omega)]
      have ei : i = (memT M m).length := by omega
      rw [ei, List.take_length] at w1
      rw [ei] at g1
      exact hq σ1 g1 w1
    | succ d ih =>
      intro i σ1 hi g1 w1
      have hil : i < (memT M m).length := by omega
      have hC1 : cC σ1 := hC.cq g1.1 (by rcases hf with ⟨w, w2⟩ | ⟨w, w2⟩ <;> rw [w, w2] <;> decide)
      have hc1 : cln σ1 := hc.cq g1.1
      have hM1 := hM0.fgr g1 hf (by omega)
      obtain ⟨k1, k2, k3, k4, k5⟩ := hM1
      obtain ⟨d1, d2, d3, d4, d5⟩ := k3 m hm
      rw [← em] at d1 d3 d4 d5
      have s71 := cC_at hC1 7001 0 0 (by decide)
      have s53 := cC_at hC1 5003 0 0 (by decide)
      have s30 := cC_at hC1 3000 0 0 (by decide)
      have s78 := cC_at hC1 7008 0 243 (by decide)
      have g243 : rl σ1 0 243 = 100 := hC1.2.1 (243, 100) (by decide)
      obtain ⟨K1, K2, K3, K4, K5, K6, K7⟩ := k5
      have hT1 : rs σ1 6000 nb = T0 + (i : Nat) := by rw [g1.2.1, hT0]
      have hr0 : rs σ1 6000 0 ≤ 8000 := by
        rcases hf with ⟨w, w2⟩ | ⟨w, w2⟩
        · rw [w2] at hT1; omega
        · rw [g1.1.nrs 6000 0 (by decide) (by rw [w, w2]; decide)]; exact hroom0
      have hwh : rdA ((memT M m).map arZ) ([((-1 : Int), (-1 : Int))] : List (Int × Int)).length = some [] := by
        rcases d5 with w | w
        · rw [w] at hil; exact absurd hil (Nat.not_lt_zero i)
        · exact w
      have src := treeW_at d4 i hil
      generalize hz : (memT M m)[i] = z at src
      generalize hu : (stW 0 [((-1 : Int), (-1 : Int))] ((memT M m).take i)).headD (-1, -1) = u at src
      rw [show memL M m + (0 + ((i : Nat) : Int)) = memL M m + (i : Nat) by omega] at src
      have hu1 : -1 ≤ u.1 ∧ u.1 < (i : Nat) := by
        have hl := stW_lt (t := (memT M m).take i) (p := 0) (st := [((-1 : Int), (-1 : Int))]) (lo := -1) (by decide) (fun v hv => by
          have : v = (-1, -1) := by simpa using hv
          rw [this]; exact ⟨by decide, by decide⟩)
        have hne := stW_ne (p := 0) hwh i hil
        rw [← hu]
        cases hst : stW 0 [((-1 : Int), (-1 : Int))] ((memT M m).take i) with
        | nil => exact absurd hst hne
        | cons v st =>
          rw [hst] at hl
          have := hl v List.mem_cons_self
          rw [List.length_take] at this
          show -1 ≤ v.1 ∧ v.1 < (i : Nat)
          omega
      -- the place of the new row
      have hpl : (stW (T0 - base) [(a, b)] ((memT M m).take i)).headD (-1, -1) = if i = 0 then (a, b) else (T0 - base + u.1, u.2) := by
        by_cases q : i = 0
        · rw [if_pos q, q]; rfl
        · rw [if_neg q]
          cases ht : (memT M m).take i with
          | nil =>
            have := congrArg List.length ht
            rw [List.length_take, List.length_nil] at this
            omega
          | cons z0 t0 =>
            rw [stW_shift1]
            have hne := stW_ne (p := 0) hwh i hil
            rw [ht] at hne hu
            cases hst : stW 0 [((-1 : Int), (-1 : Int))] (z0 :: t0) with
            | nil => exact absurd hst hne
            | cons v st =>
              rw [hst] at hu
              have e : v = u := hu
              rw [← e]
              rfl
      have fin : ∀ (σ2 : jS) (a' b' : Int), sq [(0, 243), (1, 243)] σ1 σ2 → (rs σ2 1 243 = if (z.2.2.2.2.2.2.2.getD []).length ≤ 100 then (((z.2.2.2.2.2.2.2.getD []).length : Nat) : Int) else 101) → ((z.2.2.2.2.2.2.2.getD []).length ≤ 100 → fT σ2 243 (z.2.2.2.2.2.2.2.getD [])) → (if i = 0 then (a, b) else (T0 - base + u.1, u.2)) = (a', b') → TrV (n - 1) i_Forest_add [jo 3 fb, jo 0 243, jo 6 0, ji (memL M m + (i : Nat)), ji a', ji b'] σ2 (fun σ3 => i32 (((i : Nat) : Int) + 1) ∧ J n c_Search_plantRemembered none 24 [some (jo 7 0), some (ji ((m : Nat) : Int)), some (jo 3 fb), none, some (ji a), some (ji b), some (ji (T0 - base)), some (ji (memL M m)), some (ji (((i : Nat) : Int) + 1)), none, none] [] σ3 (qV Q)) := by
        intro σ2 a' b' f2 r2 t2 ep
        have e61 : ra σ2 6001 0 = ra σ1 6001 0 := f2.nraf 6001 0 (by decide)
        have f2c := f2.cq (l' := pgF false nb fb) (by simp [pgF])
        have hC2 : cC σ2 := hC1.cq (f2.cq (l' := [(0, 243), (1, 243)]) (by decide)) (by decide)
        obtain ⟨-, z0, z1, z2, z3, z4, z5, z7, z6⟩ := src
        have hF2 : fok nb fb σ2 := by
          have := g1.2.2.1
          unfold fok at this ⊢
          rw [f2.nrs 6000 nb (by simp), f2.nrl 6001 nb, f2.nrs 3002 fb (by simp), f2.nrl 3001 fb]
          exact this
        have f60 : rs σ2 6000 0 = rs σ1 6000 0 := f2.nrs 6000 0 (by decide)
        have f60n : rs σ2 6000 nb = rs σ1 6000 nb := f2.nrs 6000 nb (by simp)
        refine c_fgr (z := z) (by omega) hf (Or.inl rfl) hC2 (by omega) (by rw [f60]; omega) (by rw [f60, f2.nrl 6001 0]; exact K2) (by rw [f2.nrl 6001 0]; exact K3) hF2 (by rw [f60n]; omega) r2 t2 (by rw [e61]; exact z0) (by rw [e61]; exact z3) (by rw [e61]; exact z4) (by rw [e61]; exact z5) (fun σ3 g3 n3 => ⟨⟨by omega, by omega⟩, ?_⟩)
        have g13 : fgr false nb fb 1 σ1 σ3 := by
          obtain ⟨a1, a2, a3, a4, a5, a6⟩ := g3
          refine ⟨f2c.tr a1, by rw [a2, f60n], a3, fun x x0 x1 => ?_, ?_, fun x x0 x1 => ?_⟩
          · rw [a4 x x0 (by rw [f60n]; exact x1), f2.nraf 6001 nb (by simp)]
          · rw [← f2.nrs 3002 fb (by simp)]; exact a5
          · rw [a6 x x0 (by rw [f2.nrs 3002 fb (by simp)]; exact x1), f2.nraf 3001 fb (by simp)]
        have g03 := g1.tr g13 (by omega)
        rw [show ((i : Nat) : Int) + 1 = ((i + 1 : Nat) : Int) by omega] at g03 ⊢
        refine ih (i + 1) σ3 (by omega) g03 ?_
        rw [List.take_succ, List.getElem?_eq_getElem hil, hz]
        show treeW σ3 nb fb base (T0 - base) [(a, b)] ((memT M m).take i ++ [z])
        refine treeW_snoc.mpr ⟨treeW_up g13.2.2.2.2.2 g13.2.2.2.2.1 (fun x x0 x1 => g13.2.2.2.1 x (by omega) ?_) w1, ?_⟩
        · rw [List.length_take] at x1
          omega
        · rw [List.length_take, Nat.min_eq_left (by omega), hpl, ep, show base + (T0 - base + ((i : Nat) : Int)) = T0 + (i : Nat) by omega, ← hT1, ← f60n]
          exact n3
      have gi : ∀ (Q2 : jS → Prop), (∀ σ2, sq [(0, 243), (1, 243)] σ1 σ2 → (rs σ2 1 243 = if (z.2.2.2.2.2.2.2.getD []).length ≤ 100 then (((z.2.2.2.2.2.2.2.getD []).length : Nat) : Int) else 101) → ((z.2.2.2.2.2.2.2.getD []).length ≤ 100 → fT σ2 243 (z.2.2.2.2.2.2.2.getD [])) → rs σ2 7001 0 = 0 → rs σ2 5003 0 = 0 → rs σ2 3000 0 = 0 → rs σ2 7008 0 = 243 → Q2 σ2) → TrV (n - 1) i_Forest_goalInto [jo 3 0, ji (memL M m + (i : Nat)), jo 0 243] σ1 Q2 := fun Q2 hk => by
        refine c_goalInto (nb := 0) (z := z) (u := u) (by omega) (Or.inl ⟨rfl, rfl⟩) s30 (by omega) (by omega) K2 K3 (by omega) K6 g243 rfl src (fun σ2 f2 r2 t2 => hk σ2 f2 r2 t2 ?_ ?_ ?_ ?_)
        · rw [f2.nrs 7001 0 (by decide)]; exact s71
        · rw [f2.nrs 5003 0 (by decide)]; exact s53
        · rw [f2.nrs 3000 0 (by decide)]; exact s30
        · rw [f2.nrs 7008 0 (by decide)]; exact s78
      refine wp_Search_plantRemembered_24 ⟨by omega, by omega, ?_⟩
      rw [s71]
      refine ⟨by omega, wp_Memory_nodesOf ?_⟩
      rw [if_neg (by omega), if_neg (by omega), cln_at hc1 5001 0 40 (by decide), d1]
      refine ⟨by omega, by omega, by omega, by omega, ?_⟩
      rw [if_neg (by omega)]
      by_cases q : i = 0
      · rw [if_neg (fun w => w (by omega)), if_neg (fun w => w (by omega)), s71, s53, s78]
        refine ⟨by omega, ⟨by omega, by omega⟩, by omega, gi _ (fun σ2 f2 r2 t2 v1 v2 v3 v4 => ?_)⟩
        rw [v1, v2, v3, v4]
        refine ⟨by omega, by omega, by omega, fin σ2 a b f2 r2 t2 (if_pos q)⟩
      · rw [if_pos (by omega)]
        obtain ⟨-, z0, z1, z2, -⟩ := src
        rw [s71, s53, s30]
        refine ⟨by omega, by omega, ⟨by omega, by omega⟩, by omega, c_nget (c := 1) (by omega) (by omega) (by omega) (by decide) K2 (by unfold gr3 at K3; omega) ?_⟩
        rw [show (memL M m + ((i : Nat) : Int)) * 8 + ((1 : Nat) : Int) = (memL M m + ((i : Nat) : Int)) * 8 + 1 by omega, z1, if_pos (by omega), s71, s53, s30]
        refine ⟨⟨by omega, by omega⟩, by omega, by omega, by omega, c_nget (c := 2) (by omega) (by omega) (by omega) (by decide) K2 (by unfold gr3 at K3; omega) ?_⟩
        rw [show (memL M m + ((i : Nat) : Int)) * 8 + ((2 : Nat) : Int) = (memL M m + ((i : Nat) : Int)) * 8 + 2 by omega, z2, s71, s53, s78]
        refine ⟨by omega, by omega, gi _ (fun σ2 f2 r2 t2 v1 v2 v3 v4 => ?_)⟩
        rw [v1, v2, v3, v4]
        exact ⟨by omega, by omega, by omega, fin σ2 _ _ f2 r2 t2 (if_neg q)⟩
  exact loop (memT M m).length 0 σ (by omega) (fgr.rf ⟨by omega, by rw [hT0]; exact F2, F3, F4, by rw [hT0]; exact F5, F6, F7⟩) trivial
end ZPs
