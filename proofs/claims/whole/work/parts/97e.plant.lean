/-! Rows of the plan are planted as a tree: the class. -/
/-- the rows of goals as they are now -/
def kpt (f : Int → List Int) (i : zI) : zI := match i with
  | .inl (a, b, c, d, e, u, y, _) => .inl (a, b, c, d, e, u, y, some (f y))
  | i => i
theorem kpt_ar (f : Int → List Int) (i : zI) : arI (kpt f i) = arI i := by
  rcases i with ⟨a, b, c, d, e, u, y, r⟩ | m <;> rfl
theorem stP_kpt {f : Int → List Int} : ∀ (t : List zI) (p : Int) (st : List (Int × Int)), stP p st (t.map (kpt f)) = stP p st t := by
  intro t
  induction t with
  | nil => intro _ _; rfl
  | cons y t ih =>
    intro p st
    show stP (p + 1) ((List.range (arI (kpt f y))).map (fun k : Nat => (p, (k : Int))) ++ st.tail) (t.map (kpt f)) = _
    rw [kpt_ar, ih]
    rfl
theorem kpt_inr {f : Int → List Int} {m : Nat} {t : List zI} (h : .inr m ∈ t.map (kpt f)) : .inr m ∈ t := by
  obtain ⟨i, hi, e⟩ := List.mem_map.mp h
  rcases i with ⟨a, b, c, d, e', u, y, r⟩ | m'
  · cases e
  · have : m' = m := Sum.inr.inj e
    rw [← this]; exact hi
theorem expT_kpt {M : zM} {f : Int → List Int} : ∀ (t : List zI), (expT M (t.map (kpt f))).length = (expT M t).length := by
  intro t
  induction t with
  | nil => rfl
  | cons y t ih =>
    rcases y with ⟨a, b, c, d, e', u, y, r⟩ | m
    · show (expT M (.inl (a, b, c, d, e', u, y, some (f y)) :: t.map (kpt f))).length = _
      rw [expT_inl, expT_inl, List.length_cons, List.length_cons, ih]
    · show (expT M (.inr m :: t.map (kpt f))).length = _
      rw [expT_inr, expT_inr, List.length_append, List.length_append, ih]
theorem expT_ne {M : zM} {t : List zI} (h : ¬ t = []) (hi : ∀ m : Nat, .inr m ∈ t → ¬ memT M m = []) : ¬ expT M t = [] := by
  cases t with
  | nil => exact absurd rfl h
  | cons y t =>
    rcases y with z | m
    · rw [expT_inl]; exact fun w => by cases w
    · rw [expT_inr]
      intro w
      exact hi m List.mem_cons_self (List.append_eq_nil_iff.mp w).1
section ZPt
variable {n : Nat} {σ σ1 σ2 : jS} {nb fb : Int} {M : zM} {g : zH} {N : Int} {β : List (Int × Int)}
theorem c_plant {Q : jS → Prop} {t : List zI} {me a0 b0 : Int} {f : Int → List Int} (hn : 6 ≤ n) (hf : (fb = 0 ∧ nb = 0) ∨ (fb = 1 ∧ nb = 2)) (hC : cC σ) (hT : cT σ g N β) (ha : acy g N β) (hM : memQ σ M) (hF : fok nb fb σ)
    (hp : planS σ me [(a0, b0)] t) (hw : rdA (t.map arI) 1 = some []) (m0 : 0 ≤ me) (htop : rs σ 6000 1 = me + (t.length : Nat)) (htl : rs σ 6000 1 ≤ 200) (pl : rs σ 6000 1 * 8 ≤ rl σ 6001 1) (pg : gr3 (rl σ 6001 1))
    (hi : ∀ m : Nat, .inr m ∈ t → m < M.length ∧ ¬ memT M m = []) (hy : ∀ z : zN, .inl z ∈ t → 0 ≤ z.2.2.2.2.2.2.1 ∧ z.2.2.2.2.2.2.1 < N ∧ f z.2.2.2.2.2.2.1 = cno [] (ex g N β z.2.2.2.2.2.2.1))
    (hroom : rs σ 6000 nb + ((expT M t).length : Nat) ≤ 8000) (hroom0 : rs σ 6000 0 ≤ 8000)
    (hq : ∀ σ', fgr true nb fb ((expT M t).length : Nat) σ σ' → treeW σ' nb fb (rs σ 6000 nb) 0 [(-1, -1)] (expT M (t.map (kpt f))) → Q σ') : TrV n i_Search_plant [jo 7 0, ji me, jo 3 fb] σ Q := by
  have hc := hT.1.1
  have hfb : rs σ 3000 fb = nb := by
    rcases hf with ⟨w, w2⟩ | ⟨w, w2⟩
    · rw [w, w2]; exact cC_at hC 3000 0 0 (by decide)
    · rw [w, w2]; exact cC_at hC 3000 1 2 (by decide)
  have hb0 := hF.1
  generalize hB : rs σ 6000 nb = base at hroom hq hb0
  have hlen : (expT M (t.map (kpt f))).length = (expT M t).length := expT_kpt t
  refine wp_Search_plant ⟨by omega, by omega, ?_⟩
  rw [hfb, hB]
  -- how many nodes the first rows come to
  have hLm : ∀ j, j ≤ t.length → (expT M ((t.take j).map (kpt f))).length ≤ (expT M t).length := fun j _ => by
    rw [expT_kpt]
    have := congrArg List.length (expT_two M (t.take j) (t.drop j))
    rw [List.take_append_drop, List.length_append] at this
    omega
  have loop : ∀ (d i : Nat) (σ1 : jS), i + d = t.length → fgr true nb fb ((expT M ((t.take i).map (kpt f))).length : Nat) σ σ1 → treeW σ1 nb fb base 0 [(-1, -1)] (expT M ((t.take i).map (kpt f))) → (∀ j : Nat, j < i → ra σ1 7013 0 (me + (j : Nat)) = ((expT M ((t.take j).map (kpt f))).length : Nat)) → J n c_Search_plant none 11 [some (jo 7 0), some (ji me), some (jo 3 fb), some (ji base), some (ji (me + (i : Nat))), none, none, none, none, none] [] σ1 (qV Q) := by
    intro d
    induction d with
    | zero =>
      intro i σ1 hid g1 w1 p1
      have ei : i = t.length := by omega
      have hC1 : cC σ1 := hC.cq g1.1 (by rcases hf with ⟨w, w2⟩ | ⟨w, w2⟩ <;> rw [w, w2] <;> decide)
      refine wp_Search_plant_11 ⟨by omega, ?_⟩
      rw [cC_at hC1 7006 0 1 (by decide)]
      refine ⟨by omega, ?_⟩
      rw [g1.1.nrs 6000 1 (by decide) (by rcases hf with ⟨w, w2⟩ | ⟨w, w2⟩ <;> rw [w, w2] <;> decide), if_pos (by omega)]
      rw [ei, List.take_length] at w1 g1
      rw [hlen] at g1
      exact hq σ1 g1 w1
    | succ d ih =>
      intro i σ1 hid g1 w1 p1
      have hit : i < t.length := by omega
      have hLi := hLm i (by omega)
      generalize hLe : (expT M ((t.take i).map (kpt f))).length = L at g1 hLi
      have hC1 : cC σ1 := hC.cq g1.1 (by rcases hf with ⟨w, w2⟩ | ⟨w, w2⟩ <;> rw [w, w2] <;> decide)
      have hc1 : cln σ1 := hc.cq g1.1
      have e60 : rs σ1 6000 1 = rs σ 6000 1 := g1.1.nrs 6000 1 (by decide) (by rcases hf with ⟨w, w2⟩ | ⟨w, w2⟩ <;> rw [w, w2] <;> decide)
      have e61 : ra σ1 6001 1 = ra σ 6001 1 := g1.1.nraf 6001 1 (by decide) (by rcases hf with ⟨w, w2⟩ | ⟨w, w2⟩ <;> rw [w, w2] <;> decide)
      have e62 : rl σ1 6001 1 = rl σ 6001 1 := g1.1.nrl 6001 1 (by decide) (by rcases hf with ⟨w, w2⟩ | ⟨w, w2⟩ <;> rw [w, w2] <;> decide)
      have hpl2 : rl σ1 6001 1 ≤ 200000 := by rw [e62]; unfold gr3 at pg; omega
      have l13 := cln_at hc1 7013 0 200 (by decide)
      have e30 : rs σ1 3000 fb = nb := by rw [g1.1.nrs 3000 fb (by decide) (by simp [pgF])]; exact hfb
      have hT1 : rs σ1 6000 nb = base + (L : Nat) := by rw [g1.2.1, hB]
      have row := planS_at hp i hit
      generalize hu : (stP me [(a0, b0)] (t.take i)).headD (-1, -1) = u at row
      obtain ⟨R1, R2, R3⟩ := row
      -- where the new rows come to stand
      have hst : ∃ a' b' rest, stW 0 [((-1 : Int), (-1 : Int))] (expT M ((t.take i).map (kpt f))) = (a', b') :: rest ∧ (i = 0 → a' = -1 ∧ b' = -1) ∧ (0 < i → (me ≤ u.1 ∧ u.1 < me + (i : Nat)) ∧ a' = ((expT M ((t.take (u.1 - me).toNat).map (kpt f))).length : Nat) ∧ b' = u.2) := by
        by_cases q : i = 0
        · subst q
          exact ⟨-1, -1, [], rfl, fun _ => ⟨rfl, rfl⟩, fun w => absurd w (Nat.lt_irrefl 0)⟩
        · have key := stW_exp (M := M) (g := fun r => ((expT M ((t.take (r - me).toNat).map (kpt f))).length : Nat)) ((t.take i).map (kpt f)) me 0 [(a0, b0)] (fun m hm => by
            obtain ⟨c1, c2⟩ := hi m (List.mem_of_mem_take (kpt_inr hm))
            obtain ⟨-, -, h3, -⟩ := hM
            obtain ⟨-, -, -, -, d5⟩ := h3 m c1
            rw [← memT_at c1] at d5
            exact d5.resolve_left c2) (fun j hj => by
            rw [List.length_map, List.length_take] at hj
            rw [← List.map_take, List.take_take, Nat.min_eq_left (by omega)]
            show (((expT M ((t.take (me + (j : Nat) - me).toNat).map (kpt f))).length : Nat) : Int) = _
            rw [show (me + (j : Nat) - me).toNat = j by omega]
            omega) (fun j hj => by
            rw [List.length_map, List.length_take] at hj
            rw [← List.map_take, List.take_take, Nat.min_eq_left (by omega), stP_kpt]
            exact stP_ne hw j (by omega))
          have hne : ¬ expT M ((t.take i).map (kpt f)) = [] := expT_ne (fun w => by
            have := congrArg List.length w
            rw [List.length_map, List.length_take, List.length_nil] at this
            omega) (fun m hm => (hi m (List.mem_of_mem_take (kpt_inr hm))).2)
          rw [stW_hd (u' := ((((expT M ((t.take (a0 - me).toNat).map (kpt f))).length : Nat) : Int), b0)) hne]
          have key2 : stW 0 [((((expT M ((t.take (a0 - me).toNat).map (kpt f))).length : Nat) : Int), b0)] (expT M ((t.take i).map (kpt f))) = (stP me [(a0, b0)] ((t.take i).map (kpt f))).map (gPl (fun r => ((expT M ((t.take (r - me).toNat).map (kpt f))).length : Nat))) := key
          rw [key2, stP_kpt]
          have hne2 := stP_ne hw (p := me) (st := [(a0, b0)]) i hit
          cases hs : stP me [(a0, b0)] (t.take i) with
          | nil => exact absurd hs hne2
          | cons v st =>
            rw [hs] at hu
            have ev : v = u := hu
            refine ⟨_, _, _, rfl, fun w => absurd w q, fun _ => ⟨?_, by rw [ev], by rw [ev]⟩⟩
            -- the row above stands in the tree
            cases ht : t.take i with
            | nil =>
              have := congrArg List.length ht
              rw [List.length_take, List.length_nil] at this
              omega
            | cons y0 t0 =>
              rw [ht] at hs
              have hl := stP_lt (t := t0) (p := me + 1) (st := (List.range (arI y0)).map (fun k : Nat => (me, (k : Int))) ++ []) (lo := me) (by omega) (fun x hx => by
                rw [List.append_nil] at hx
                obtain ⟨k, -, e⟩ := List.mem_map.mp hx
                rw [← e]
                exact ⟨Int.le_refl _, by show me < me + 1; omega⟩) v (by
                have : stP me [(a0, b0)] (y0 :: t0) = stP (me + 1) ((List.range (arI y0)).map (fun k : Nat => (me, (k : Int))) ++ []) t0 := rfl
                rw [← this, hs]
                exact List.mem_cons_self)
              have hlt := congrArg List.length ht
              rw [List.length_take, List.length_cons] at hlt
              rw [← ev]
              omega
      obtain ⟨a', b', rest, hst, hst0, hst1⟩ := hst
      refine wp_Search_plant_11 ⟨by omega, ?_⟩
      rw [cC_at hC1 7006 0 1 (by decide)]
      refine ⟨by omega, ?_⟩
      rw [if_neg (by omega), if_neg (by omega), l13, e30, hT1]
      refine ⟨by omega, by omega, by omega, ⟨by omega, by omega⟩, by omega, by omega, fun s7 e7 => ⟨by omega, ?_⟩⟩
      have f7 : sq [(7013, 0)] σ1 s7 := by rw [e7]; exact (sq.rf _ σ1).pwa 7013 0 _ _ (by decide)
      have r7 : ra s7 7013 0 = upI (ra σ1 7013 0) (me + (i : Nat)) (base + (L : Nat) - base) := by
        rw [e7]
        unfold wa
        rw [raf_wA, if_pos ⟨rfl, rfl⟩]
      clear e7
      have p7 : ∀ j : Nat, j < i + 1 → ra s7 7013 0 (me + (j : Nat)) = ((expT M ((t.take j).map (kpt f))).length : Nat) := fun j hj => by
        rw [r7]
        unfold upI
        by_cases q : j = i
        · rw [if_pos (by omega), q, hLe]; omega
        · rw [if_neg (by omega)]; exact p1 j (by omega)
      have g7 : fgr true nb fb ((L : Nat) : Int) σ s7 := by
        have f7c := f7.cq (l' := pgF true nb fb) (by simp [pgF])
        obtain ⟨a1, a2, a3, a4, a5, a6⟩ := g1
        refine ⟨a1.tr f7c, by rw [f7.nrs 6000 nb (by simp)]; exact a2, ?_, fun x x0 x1 => by rw [f7.nraf 6001 nb (by simp)]; exact a4 x x0 x1, by rw [f7.nrs 3002 fb (by simp)]; exact a5, fun x x0 x1 => by rw [f7.nraf 3001 fb (by simp)]; exact a6 x x0 x1⟩
        unfold fok at a3 ⊢
        rw [f7.nrs 6000 nb (by simp), f7.nrl 6001 nb, f7.nrs 3002 fb (by simp), f7.nrl 3001 fb]
        exact a3
      have w7 : treeW s7 nb fb base 0 [(-1, -1)] (expT M ((t.take i).map (kpt f))) := treeW_cong (f7.nraf 6001 nb (by simp)) (f7.nraf 3001 fb (by simp)) (f7.nrs 3002 fb (by simp)) w1
      have hC7 : cC s7 := hC1.cq (f7.cq (l' := [(7013, 0)]) (by decide)) (by decide)
      have hc7 : cln s7 := hc1.sq f7
      have t76 := cC_at hC7 7006 0 1 (by decide)
      have t70 := cC_at hC7 7000 0 0 (by decide)
      have t78 := cC_at hC7 7008 0 243 (by decide)
      have x60 : rs s7 6000 1 = rs σ 6000 1 := by rw [f7.nrs 6000 1 (by decide)]; exact e60
      have x61 : ra s7 6001 1 = ra σ 6001 1 := by rw [f7.nraf 6001 1 (by decide)]; exact e61
      have x62 : rl s7 6001 1 = rl σ 6001 1 := by rw [f7.nrl 6001 1]; exact e62
      have y60 : rs s7 6000 nb = base + (L : Nat) := by rw [f7.nrs 6000 nb (by simp)]; exact hT1
      have hT7 : cT s7 g N β := hT.cq g7.1 (by rcases hf with ⟨w, w2⟩ | ⟨w, w2⟩ <;> rw [w, w2] <;> decide)
      have hM7 : memQ s7 M := hM.fgr g7 hf (by omega)
      have hmem : t[i] ∈ t := List.getElem_mem hit
      -- behind the new rows
      have on : ∀ (σ3 : jS) (x : List zN), fgr true nb fb ((x.length : Nat) : Int) s7 σ3 → expT M ([t[i]].map (kpt f)) = x → treeW σ3 nb fb base ((L : Nat) : Int) ((a', b') :: rest) x → ra σ3 7013 0 = ra s7 7013 0 → i32 (me + ((i : Nat) : Int) + 1) ∧ J n c_Search_plant none 11 [some (jo 7 0), some (ji me), some (jo 3 fb), some (ji base), some (ji (me + ((i : Nat) : Int) + 1)), none, none, none, none, none] [] σ3 (qV Q) := by
        intro σ3 x g3 hx w3 r3
        refine ⟨⟨by omega, by omega⟩, ?_⟩
        have et : (t.take (i + 1)).map (kpt f) = (t.take i).map (kpt f) ++ [t[i]].map (kpt f) := by
          rw [← List.map_append, List.take_succ, List.getElem?_eq_getElem hit]
          rfl
        have el : (expT M ((t.take (i + 1)).map (kpt f))).length = L + x.length := by
          rw [et, expT_two, List.length_append, hLe, hx]
        rw [show me + ((i : Nat) : Int) + 1 = me + ((i + 1 : Nat) : Int) by omega]
        refine ih (i + 1) σ3 (by omega) ?_ ?_ (fun j hj => by rw [r3]; exact p7 j hj)
        · rw [el, show ((L + x.length : Nat) : Int) = ((L : Nat) : Int) + (x.length : Nat) by omega]
          exact g7.tr g3 (by omega)
        · rw [et, expT_two, hx]
          refine treeW_app.mpr ⟨treeW_up g3.2.2.2.2.2 g3.2.2.2.2.1 (fun z z0 z1 => g3.2.2.2.1 z (by omega) ?_) w7, ?_⟩
          · rw [hLe] at z1
            omega
          · rw [hLe, hst, show 0 + ((L : Nat) : Int) = (L : Nat) by omega]
            exact w3
      have memC : ∀ m : Nat, t[i] = .inr m → TrV (n - 1) i_Search_plantRemembered [jo 7 0, ji ((m : Nat) : Int), jo 3 fb, ji base, ji a', ji b'] s7 (fun σ3 => i32 (me + ((i : Nat) : Int) + 1) ∧ J n c_Search_plant none 11 [some (jo 7 0), some (ji me), some (jo 3 fb), some (ji base), some (ji (me + ((i : Nat) : Int) + 1)), none, none, none, none, none] [] σ3 (qV Q)) := by
        intro m em
        obtain ⟨m1, m2⟩ := hi m (by rw [← em]; exact hmem)
        have ex : expT M ([t[i]].map (kpt f)) = memT M m := by
          rw [em]
          show expT M [.inr m] = memT M m
          rw [expT_inr]
          exact List.append_nil _
        have hl2 := hLm (i + 1) (by omega)
        have et : (t.take (i + 1)).map (kpt f) = (t.take i).map (kpt f) ++ [t[i]].map (kpt f) := by
          rw [← List.map_append, List.take_succ, List.getElem?_eq_getElem hit]
          rfl
        rw [et, expT_two, List.length_append, hLe, ex] at hl2
        refine c_plantRem (by omega) hf hc7 hC7 hM7 g7.2.2.1 m1 (by rw [y60]; omega) ?_ (by omega) (by rw [y60]; omega) (fun σ3 g3 w3 => on σ3 _ g3.up ex ?_ (g3.1.nraf 7013 0 (by decide) (by simp [pgF])))
        · rcases hf with ⟨w, w2⟩ | ⟨w, w2⟩
          · rw [w2] at y60; omega
          · rw [f7.nrs 6000 0 (by decide), g1.1.nrs 6000 0 (by decide) (by rw [w, w2]; decide)]; exact hroom0
        · rw [y60, show base + ((L : Nat) : Int) - base = (L : Nat) by omega] at w3
          refine treeW_full (us := [(a', b')]) ?_ w3
          obtain ⟨-, -, h3, -⟩ := hM7
          obtain ⟨-, -, -, -, d5⟩ := h3 m m1
          rw [← memT_at m1] at d5
          exact d5.resolve_left m2
      have ownC : ∀ z : zN, t[i] = .inl z → ∀ K : jS → Prop, (∀ zs30, TrV (n - 1) i_Forest_add [jo 3 fb, jo 0 (rs zs30 7008 0), jo 6 (rs zs30 7006 0), ji (me + ((i : Nat) : Int)), ji a', ji b'] zs30 (fun σ3 => i32 (me + ((i : Nat) : Int) + 1) ∧ J n c_Search_plant none 11 [some (jo 7 0), some (ji me), some (jo 3 fb), some (ji base), some (ji (me + ((i : Nat) : Int) + 1)), none, none, none, none, none] [] σ3 (qV Q)) → K zs30) → TrV (n - 1) i_Terms_flatten [jo 9 0, ji z.2.2.2.2.2.2.1, jo 0 243] s7 K := by
        intro z ez K hK
        obtain ⟨y0, y1, y2⟩ := hy z (by rw [← ez]; exact hmem)
        rw [ez] at R3
        obtain ⟨z0, z3, z4, z5, z6, z7⟩ := R3
        have g243 : rl s7 0 243 = 100 := hC7.2.1 (243, 100) (by decide)
        obtain ⟨za, zb, zc, zd, ze, zv, zy, zr⟩ := z
        refine c_flatten (by omega) hT7 ha (by omega) g243 y0 y1 (fun σ3 f3 r3 => hK σ3 ?_)
        have f3c : cq (pgF true nb fb) s7 σ3 := f3.cq (by simp [fF, pgF])
        have hC3 : cC σ3 := hC7.cq (f3.cq (l' := fF 243) (by decide)) (by decide)
        rw [cC_at hC3 7008 0 243 (by decide), cC_at hC3 7006 0 1 (by decide)]
        have len1 := cno_len (ex g N β zy) []
        have hF3 : fok nb fb σ3 := by
          have := g7.2.2.1
          unfold fok at this ⊢
          rw [f3.nrs 6000 nb (by simp [fF]), f3.nrl 6001 nb, f3.nrs 3002 fb (by simp [fF]), f3.nrl 3001 fb]
          exact this
        have v60 : rs σ3 6000 nb = base + (L : Nat) := by rw [f3.nrs 6000 nb (by simp [fF])]; exact y60
        have v61 : rs σ3 6000 1 = rs σ 6000 1 := by rw [f3.nrs 6000 1 (by decide)]; exact x60
        have v62 : ra σ3 6001 1 = ra σ 6001 1 := by rw [f3.nraf 6001 1 (by decide)]; exact x61
        have v63 : rl σ3 6001 1 = rl σ 6001 1 := by rw [f3.nrl 6001 1]; exact x62
        have y2' : f zy = cno [] (ex g N β zy) := y2
        refine c_fgr (z := (za, zb, zc, zd, ze, zv, zy, some (f zy))) (by omega) hf (Or.inr rfl) hC3 (by omega) (by omega) (by rw [v61, v63]; exact pl) (by rw [v63]; exact pg) hF3 ?_ ?_ (fun hl => ?_) (by rw [v62]; exact z0) (by rw [v62]; exact z3) (by rw [v62]; exact z4) (by rw [v62]; exact z5) (fun σ4 g4 n4 => on σ4 [(za, zb, zc, zd, ze, zv, zy, some (f zy))] ?_ (by rw [ez]; rfl) ⟨?_, trivial⟩ ?_)
        · have ex1 : expT M ([t[i]].map (kpt f)) = [(za, zb, zc, zd, ze, zv, zy, some (f zy))] := by rw [ez]; rfl
          have hl2 := hLm (i + 1) (by omega)
          have et : (t.take (i + 1)).map (kpt f) = (t.take i).map (kpt f) ++ [t[i]].map (kpt f) := by
            rw [← List.map_append, List.take_succ, List.getElem?_eq_getElem hit]
            rfl
          rw [et, expT_two, List.length_append, hLe, ex1, List.length_singleton] at hl2
          omega
        · show rs σ3 1 243 = if (f zy).length ≤ 100 then (((f zy).length : Nat) : Int) else 101
          rw [y2', len1]
          exact r3.1
        · have hl' : (f zy).length ≤ 100 := hl
          show fT σ3 243 (f zy)
          rw [y2']
          rw [y2', len1] at hl'
          exact r3.fT hl' (by omega) (by rw [f3.nrl]; exact g243)
        · obtain ⟨a1, a2, a3, a4, a5, a6⟩ := (g4.up : fgr true nb fb 1 σ3 σ4)
          refine ⟨f3c.tr a1, by rw [a2, f3.nrs 6000 nb (by simp [fF])]; rfl, a3, fun x x0 x1 => ?_, ?_, fun x x0 x1 => ?_⟩
          · rw [a4 x x0 (by rw [f3.nrs 6000 nb (by simp [fF])]; exact x1), f3.nraf 6001 nb (by simp [fF])]
          · rw [← f3.nrs 3002 fb (by simp [fF])]; exact a5
          · rw [a6 x x0 (by rw [f3.nrs 3002 fb (by simp [fF])]; exact x1), f3.nraf 3001 fb (by simp [fF])]
        · rw [v60] at n4
          exact n4
        · rw [g4.1.nraf 7013 0 (by decide) (by simp [pgF]), f3.nraf 7013 0 (by decide)]
      have gt : ∀ (c : Nat) (v : Int) (K : Int → jS → Prop), c < 8 → ra σ 6001 1 ((me + ((i : Nat) : Int)) * 8 + ((c : Nat) : Int)) = v → K v s7 → TrI (n - 1) i_Nodes_get [jo 6 1, ji (me + ((i : Nat) : Int)), ji ((c : Nat) : Int)] s7 K := fun c v K hcc hv hk => by
        refine c_nget (by omega) (by omega) (by omega) hcc (by rw [x60, x62]; exact pl) (by rw [x62]; unfold gr3 at pg; omega) ?_
        rw [x61, hv]
        exact hk
      rw [t76]
      refine ⟨by omega, gt 1 _ _ (by decide) R1 ?_⟩
      by_cases q : i = 0
      · obtain ⟨qa, qb⟩ := hst0 q
        rw [qa, qb] at memC ownC
        rw [if_pos (by omega)]
        refine wp_Search_plant_82 ⟨by omega, by omega, ?_⟩
        rw [t76]
        refine ⟨by omega, ?_⟩
        cases et : t[i] with
        | inl z =>
          rw [et] at R3
          refine gt 7 _ _ (by decide) R3.2.2.2.2.2 ?_
          rw [if_neg (fun w => w rfl), t76]
          refine ⟨by omega, gt 6 _ _ (by decide) R3.2.2.2.2.1 ?_⟩
          rw [t70, t78]
          exact ⟨by omega, ownC z et _ (fun zs h => ⟨by omega, h⟩)⟩
        | inr m =>
          rw [et] at R3
          refine gt 7 _ _ (by decide) R3 ?_
          rw [if_pos (by omega)]
          exact ⟨by omega, memC m et⟩
      · obtain ⟨⟨u1, u2⟩, u3, u4⟩ := hst1 (by omega)
        have hpa : ra s7 7013 0 u.1 = a' := by
          have := p7 (u.1 - me).toNat (by omega)
          rw [show me + (((u.1 - me).toNat : Nat) : Int) = u.1 by omega] at this
          rw [this, u3]
        rw [if_neg (by omega), if_neg (by omega), if_neg (by omega), f7.nrl 7013 0, l13, t76]
        refine ⟨by omega, by omega, by omega, by omega, gt 2 _ _ (by decide) R2 ?_⟩
        rw [t76]
        refine ⟨by omega, ?_⟩
        rw [hpa, ← u4]
        cases et : t[i] with
        | inl z =>
          rw [et] at R3
          refine gt 7 _ _ (by decide) R3.2.2.2.2.2 ?_
          rw [if_neg (fun w => w rfl), t76]
          refine ⟨by omega, gt 6 _ _ (by decide) R3.2.2.2.2.1 ?_⟩
          rw [t70, t78]
          exact ⟨by omega, ownC z et _ (fun zs h => h)⟩
        | inr m =>
          rw [et] at R3
          refine gt 7 _ _ (by decide) R3 ?_
          rw [if_pos (by omega)]
          exact memC m et
  have := loop t.length 0 σ (by omega) ?_ trivial (fun j hj => absurd hj (Nat.not_lt_zero j))
  · rw [show me + ((0 : Nat) : Int) = me by omega] at this
    exact this
  · exact fgr.rf hF
end ZPt
