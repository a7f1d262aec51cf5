/-! Whether one type becomes another: the reference, as a whole. -/
section ZMu
variable {n : Nat} {σ σ1 : jS} {F G : Nat} {x y : Int} {ra0 rb0 : List Int}
/-- two places are compared -/
theorem t_isPut106 {Q : Int → jS → Prop} {p q p5 y4 v pos : Int} {L : Nat} (hm : mln σ1) (hj : jt F = 0) (hb : rl σ1 F 0 ≤ 1000000) (hL : L ≤ 1000) (v0 : 0 ≤ v) (v1 : v < 26) (hpos : ra σ1 1027 0 v = pos) (h0 : 0 ≤ pos) (h1 : pos ≤ p) (h2 : p + ((L : Nat) : Int) ≤ rl σ1 F 0) (hq1 : q + 1 < 1000000) (hq0 : -1000000 < q)
    (hOK : (∀ k : Nat, k < L → ra σ1 F 0 (pos + ((k : Nat) : Int)) = ra σ1 F 0 (p + ((k : Nat) : Int))) → J n c_Model_isPutIn (some .boolean) 31 [some (jo 1 0), some (ja F 0), none, some (ja G 0), some (ji y4), some (ji p5), some (ji (p + ((L : Nat) : Int))), some (ji (q + 1)), none, none, none] [] σ1 (qI Q))
    (hNo : ∀ k : Nat, k < L → ¬ ra σ1 F 0 (pos + ((k : Nat) : Int)) = ra σ1 F 0 (p + ((k : Nat) : Int)) → Q 0 σ1) :
    ∀ (d k : Nat), k + d = L → (∀ j : Nat, j < k → ra σ1 F 0 (pos + ((j : Nat) : Int)) = ra σ1 F 0 (p + ((j : Nat) : Int))) → J n c_Model_isPutIn (some .boolean) 106 [some (jo 1 0), some (ja F 0), none, some (ja G 0), some (ji y4), some (ji p5), some (ji p), some (ji q), some (ji v), some (ji (p + ((L : Nat) : Int))), some (ji ((k : Nat) : Int))] [] σ1 (qI Q) := by
  have l27 := mln_at hm 1027 26 (by decide)
  intro d
  induction d with
  | zero =>
    intro k hk he
    refine wp_Model_isPutIn_106 ⟨⟨by omega, by omega⟩, ?_⟩
    rw [if_pos (by omega)]
    exact ⟨⟨by omega, by omega⟩, hOK (fun j hj2 => he j (by omega))⟩
  | succ d ih =>
    intro k hk he
    refine wp_Model_isPutIn_106 ⟨⟨by omega, by omega⟩, ?_⟩
    rw [if_neg (by omega), l27, hpos]
    refine ⟨by omega, by omega, v0, by omega, ⟨by omega, by omega⟩, hj, by omega, by omega, ⟨by omega, by omega⟩, by omega, by omega, ?_⟩
    by_cases qe : ra σ1 F 0 (pos + ((k : Nat) : Int)) = ra σ1 F 0 (p + ((k : Nat) : Int))
    · rw [if_pos qe]
      refine ⟨⟨by omega, by omega⟩, ?_⟩
      rw [show ((k : Nat) : Int) + 1 = ((k + 1 : Nat) : Int) by omega]
      refine ih (k + 1) (by omega) (fun j hj2 => ?_)
      by_cases qj : j = k
      · subst qj; exact qe
      · exact he j (by omega)
    · rw [if_neg qe]
      exact hNo k (by omega) qe
set_option maxRecDepth 8000 in
theorem t_isPutIn {Q : Int → jS → Prop} (hn : 3 ≤ n) (hm : mln σ) (hj : jt F = 0) (hjm : jmv F = false) (hF : ¬ F = 1027) (hjG : jt G = 0) (hjmG : jmv G = false) (hG : ¬ G = 1027) (hbF : rl σ F 0 ≤ 1000000) (hbG : rl σ G 0 ≤ 900000) (hA : rwA σ F x ra0) (hB : rwA σ G y rb0) (ha : rwk ra0) (hb : rwk rb0)
    (hq : ∀ v σ', sq [(1027, 0)] σ σ' → (v = 0 ∨ v = 1) → (v = 1 ↔ becm rb0 ra0) → Q v σ') : TrI n i_Model_isPutIn [jo 1 0, ja F 0, ji x, ja G 0, ji y, ji ((rb0.length : Nat) : Int)] σ Q := by
  have nF : ([(1027, 0)] : List (Nat × Int)).contains (F, 0) = false := by simp [hF]
  have nG : ([(1027, 0)] : List (Nat × Int)).contains (G, 0) = false := by simp [hG]
  have ha12 := ha.2.2
  have hb12 := hb.2.2
  have loop : ∀ (bs as : List Int) (k i j : Nat) (m : Int → Option (List Int)) (σ1 : jS), rdk bs k = some [] → rdk as k = some [] → sq [(1027, 0)] σ σ1 → rwA σ F (x + ((i : Nat) : Int)) as → rwA σ G (y + ((j : Nat) : Int)) bs → (∀ t, t ∈ as → thg t) → (∀ t, t ∈ bs → thg t) → i + as.length = ra0.length → j + bs.length = rb0.length → (∀ v : Int, 0 ≤ v → v < 26 → (m (-1 - v) = none → ra σ1 1027 0 v = -1) ∧ ∀ r, m (-1 - v) = some r → Typ r ∧ x ≤ ra σ1 1027 0 v ∧ ra σ1 1027 0 v + ((r.length : Nat) : Int) ≤ x + ((i : Nat) : Int) ∧ rwA σ F (ra σ1 1027 0 v) r) → (mtS bs as m = true ↔ becm rb0 ra0) → J n c_Model_isPutIn (some .boolean) 31 [some (jo 1 0), some (ja F 0), none, some (ja G 0), some (ji y), some (ji ((rb0.length : Nat) : Int)), some (ji (x + ((i : Nat) : Int))), some (ji (y + ((j : Nat) : Int))), none, none, none] [] σ1 (qI Q) := by
    intro bs
    induction bs with
    | nil =>
      intro as k i j m σ1 h1 h2 e1 hra hrb hga hgb hi hjl hP hS
      have hy := hB.1
      have hy2 := hB.2.1
      refine wp_Model_isPutIn_31 ⟨⟨by omega, by omega⟩, ?_⟩
      have hj0 : j + 0 = rb0.length := hjl
      rw [if_pos (by omega)]
      exact hq 1 σ1 e1 (Or.inr rfl) ⟨fun _ => hS.mp rfl, fun _ => rfl⟩
    | cons t bs ih =>
      intro as k i j m σ1 h1 h2 e1 hra hrb hga hgb hi hjl hP hS
      have hm1 : mln σ1 := hm.sq e1
      have l27 := mln_at hm1 1027 26 (by decide)
      have hy := hB.1
      have hy2 := hB.2.1
      have hx := hA.1
      have hx2 := hA.2.1
      rw [List.length_cons] at hjl
      have tg := hgb t List.mem_cons_self
      unfold thg at tg
      have et : ra σ1 G 0 (y + ((j : Nat) : Int)) = t := by
        rw [e1.nra G 0 _ nG]
        have := hrb.2.2 0 (by simp)
        rw [show y + ((j : Nat) : Int) + ((0 : Nat) : Int) = y + ((j : Nat) : Int) by omega] at this
        exact this
      have hgb2 : ∀ s, s ∈ bs → thg s := fun s hs => hgb s (List.mem_cons_of_mem _ hs)
      have hrb2 : rwA σ G (y + ((j + 1 : Nat) : Int)) bs := by
        have := hrb.tl
        rw [show y + ((j : Nat) : Int) + 1 = y + ((j + 1 : Nat) : Int) by omega] at this
        exact this
      cases k with
      | zero => rw [rdk_0] at h1; cases h1
      | succ k =>
        have h1b : rdk bs (k + pN t) = some [] := h1
        refine wp_Model_isPutIn_31 ⟨⟨by omega, by omega⟩, ?_⟩
        rw [if_neg (by omega), e1.nrl G 0, et]
        refine ⟨hjG, by omega, by omega, ?_⟩
        by_cases q : t < 0
        · rw [if_pos q]
          have h1c : rdk bs k = some [] := by
            have e0 : pN t = 0 := by unfold pN; rw [if_pos q]
            rw [e0] at h1b
            exact h1b
          have h2' := h2
          rw [Nat.add_comm] at h2'
          obtain ⟨s1, s2, s3⟩ := tkL_split h2'
          have hty : Typ (as.take (tkL as 1)) := s1
          have hra1 : rwA σ1 F (x + ((i : Nat) : Int)) as := hra.sq e1 nF
          have hrd : rwA σ F (x + ((i + tkL as 1 : Nat) : Int)) (as.drop (tkL as 1)) := by
            have := hra.drop s3
            rw [show x + ((i : Nat) : Int) + ((tkL as 1 : Nat) : Int) = x + ((i + tkL as 1 : Nat) : Int) by omega] at this
            exact this
          have hrt : rwA σ F (x + ((i : Nat) : Int)) (as.take (tkL as 1)) := hra.take s3
          have hlt : (as.take (tkL as 1)).length = tkL as 1 := by rw [List.length_take]; omega
          have hgd : ∀ s, s ∈ as.drop (tkL as 1) → thg s := fun s hs => hga s (List.mem_of_mem_drop hs)
          have hra2 := hra.2.1
          refine ⟨⟨by omega, by omega⟩, by omega, hjmG, hjm, wp_Model_behind ?_⟩
          refine t_behind (by omega) hj hjm (by rw [e1.nrl F 0]; exact hbF) as 1 k (x + ((i : Nat) : Int)) h2' hra1 (by omega) hga ?_
          rw [l27]
          refine ⟨by omega, by omega, by omega, by omega, ?_⟩
          obtain ⟨p1, p2⟩ := hP (-1 - t) (by omega) (by omega)
          rw [show -1 - (-1 - t) = t by omega] at p1 p2
          cases hmt : m t with
          | none =>
            rw [if_neg (fun w => w (p1 hmt))]
            intro s15 e15
            have f15 : sq [(1027, 0)] σ1 s15 := by rw [e15]; exact (sq.rf _ σ1).pwa 1027 0 _ _ (by decide)
            have r15 : ∀ z : Int, ra s15 1027 0 z = if z = -1 - t then x + ((i : Nat) : Int) else ra σ1 1027 0 z := fun z => by
              rw [e15]
              unfold wa
              rw [raf_wA, if_pos ⟨rfl, rfl⟩]
              rfl
            clear e15
            have hS2 : mtS (t :: bs) as m = mtS bs (as.drop (tkL as 1)) (fun v => if v = t then some (as.take (tkL as 1)) else m v) := by
              conv => lhs; unfold mtS
              rw [if_pos q, hmt]
            rw [hS2] at hS
            refine t_isPut106 (L := tkL as 1) (pos := x + ((i : Nat) : Int)) (hm1.sq f15) hj (by rw [f15.nrl F 0, e1.nrl F 0]; exact hbF) (by omega) (by omega) (by omega) (by rw [r15, if_pos rfl]) (by omega) (Int.le_refl _) (by rw [f15.nrl F 0, e1.nrl F 0]; omega) (by omega) (by omega) (fun _ => ?_) (fun k2 _ w => absurd rfl w) (tkL as 1) 0 (by omega) (fun j2 hj2 => absurd hj2 (by omega))
            have := ih (as.drop (tkL as 1)) k (i + tkL as 1) (j + 1) _ s15 h1c s2 (e1.tr f15) hrd hrb2 hgd hgb2 (by rw [List.length_drop]; omega) (by omega) (fun v v0 v1 => ?_) hS
            · rw [show x + ((i : Nat) : Int) + ((tkL as 1 : Nat) : Int) = x + ((i + tkL as 1 : Nat) : Int) by omega, show y + ((j : Nat) : Int) + 1 = y + ((j + 1 : Nat) : Int) by omega]
              exact this
            · rw [r15]
              by_cases qv : -1 - v = t
              · rw [if_pos qv, if_pos (by omega)]
                refine ⟨fun w => (by cases w), fun r hr => ?_⟩
                have er := Option.some.inj hr
                rw [← er]
                exact ⟨hty, by omega, by rw [hlt]; omega, hrt⟩
              · rw [if_neg qv, if_neg (by omega)]
                obtain ⟨u1, u2⟩ := hP v v0 v1
                exact ⟨u1, fun r hr => by
                  obtain ⟨w1, w2, w3, w4⟩ := u2 r hr
                  exact ⟨w1, w2, by omega, w4⟩⟩
          | some r' =>
            obtain ⟨w1, w2, w3, w4⟩ := p2 r' hmt
            rw [if_pos (by omega)]
            have hS2 : mtS (t :: bs) as m = (decide (r' = as.take (tkL as 1)) && mtS bs (as.drop (tkL as 1)) m) := by
              conv => lhs; unfold mtS
              rw [if_pos q, hmt]
            have ev : ∀ k2 : Nat, k2 < tkL as 1 → ra σ1 F 0 (x + ((i : Nat) : Int) + ((k2 : Nat) : Int)) = (as.take (tkL as 1)).getD k2 0 := fun k2 hk2 => by
              rw [e1.nra F 0 _ nF]
              exact hrt.2.2 k2 (by omega)
            have ew : ∀ k2 : Nat, k2 < r'.length → ra σ1 F 0 (ra σ1 1027 0 (-1 - t) + ((k2 : Nat) : Int)) = r'.getD k2 0 := fun k2 hk2 => by
              rw [e1.nra F 0 _ nF]
              exact w4.2.2 k2 hk2
            refine t_isPut106 (L := tkL as 1) (pos := ra σ1 1027 0 (-1 - t)) hm1 hj (by rw [e1.nrl F 0]; exact hbF) (by omega) (by omega) (by omega) rfl (by omega) (by omega) (by rw [e1.nrl F 0]; omega) (by omega) (by omega) (fun hall => ?_) (fun k2 hk2 hne => ?_) (tkL as 1) 0 (by omega) (fun j2 hj2 => absurd hj2 (by omega))
            · have er : r' = as.take (tkL as 1) := pfx_eq w1 hty (fun k2 k3 k4 => by
                rw [← ew k2 k3, ← ev k2 (by omega)]
                exact hall k2 (by omega))
              rw [hS2, decide_eq_true er, Bool.true_and] at hS
              have := ih (as.drop (tkL as 1)) k (i + tkL as 1) (j + 1) m σ1 h1c s2 e1 hrd hrb2 hgd hgb2 (by rw [List.length_drop]; omega) (by omega) (fun v v0 v1 => ?_) hS
              · rw [show x + ((i : Nat) : Int) + ((tkL as 1 : Nat) : Int) = x + ((i + tkL as 1 : Nat) : Int) by omega, show y + ((j : Nat) : Int) + 1 = y + ((j + 1 : Nat) : Int) by omega]
                exact this
              · obtain ⟨u1, u2⟩ := hP v v0 v1
                exact ⟨u1, fun r hr => by
                  obtain ⟨w1, w2, w3, w4⟩ := u2 r hr
                  exact ⟨w1, w2, by omega, w4⟩⟩
            · have hne2 : ¬ r' = as.take (tkL as 1) := fun er => hne (by
                rw [ev k2 hk2, ew k2 (by rw [er]; omega), er])
              rw [hS2, decide_eq_false hne2, Bool.false_and] at hS
              exact hq 0 σ1 e1 (Or.inl rfl) ⟨fun w => by omega, fun w => absurd (hS.mpr w) (by decide)⟩
        · rw [if_neg q, e1.nrl F 0]
          cases as with
          | nil => cases h2
          | cons s as =>
            have h2b : rdk as (k + pN s) = some [] := h2
            have hra2 := hra.2.1
            rw [List.length_cons] at hi hra2
            have es : ra σ1 F 0 (x + ((i : Nat) : Int)) = s := by
              rw [e1.nra F 0 _ nF]
              have := hra.2.2 0 (by simp)
              rw [show x + ((i : Nat) : Int) + ((0 : Nat) : Int) = x + ((i : Nat) : Int) by omega] at this
              exact this
            have hS2 : mtS (t :: bs) (s :: as) m = (decide (s = t) && mtS bs as m) := by
              conv => lhs; unfold mtS
              rw [if_neg q]
              congr 1
              show decide (some s = some t) = decide (s = t)
              by_cases qs : s = t
              · subst qs; rw [decide_eq_true rfl, decide_eq_true rfl]
              · rw [decide_eq_false qs, decide_eq_false (fun w => qs (Option.some.inj w))]
            rw [es]
            refine ⟨hj, by omega, by omega, ?_⟩
            by_cases qs : s = t
            · rw [if_pos qs]
              rw [hS2, decide_eq_true qs, Bool.true_and] at hS
              subst qs
              refine ⟨⟨by omega, by omega⟩, ⟨by omega, by omega⟩, ?_⟩
              have hra3 := hra.tl
              rw [show x + ((i : Nat) : Int) + 1 = x + ((i + 1 : Nat) : Int) by omega] at hra3
              have := ih as (k + pN s) (i + 1) (j + 1) m σ1 h1b h2b e1 hra3 hrb2 (fun s' hs' => hga s' (List.mem_cons_of_mem _ hs')) hgb2 (by omega) (by omega) (fun v v0 v1 => ?_) hS
              · rw [show x + ((i : Nat) : Int) + 1 = x + ((i + 1 : Nat) : Int) by omega, show y + ((j : Nat) : Int) + 1 = y + ((j + 1 : Nat) : Int) by omega]
                exact this
              · obtain ⟨u1, u2⟩ := hP v v0 v1
                exact ⟨u1, fun r hr => by
                  obtain ⟨w1, w2, w3, w4⟩ := u2 r hr
                  exact ⟨w1, w2, by omega, w4⟩⟩
            · rw [if_neg qs]
              rw [hS2, decide_eq_false qs, Bool.false_and] at hS
              exact hq 0 σ1 e1 (Or.inl rfl) ⟨fun w => by omega, fun w => absurd (hS.mpr w) (by decide)⟩
  -- nothing is put yet
  have clr : ∀ (d k : Nat) (σ1 : jS), k + d = 26 → sq [(1027, 0)] σ σ1 → (∀ v : Int, 0 ≤ v → v < ((k : Nat) : Int) → ra σ1 1027 0 v = -1) → J n c_Model_isPutIn (some .boolean) 3 [some (jo 1 0), some (ja F 0), some (ji x), some (ja G 0), some (ji y), some (ji ((rb0.length : Nat) : Int)), some (ji ((k : Nat) : Int)), none, none, none, none] [] σ1 (qI Q) := by
    intro d
    induction d with
    | zero =>
      intro k σ1 hk e1 hP
      refine wp_Model_isPutIn_3 ?_
      rw [if_pos (by omega)]
      have := loop rb0 ra0 1 0 0 (fun _ => none) σ1 hb.1 ha.1 e1 (by rw [show x + ((0 : Nat) : Int) = x by omega]; exact hA) (by rw [show y + ((0 : Nat) : Int) = y by omega]; exact hB) ha.2.1 hb.2.1 (by omega) (by omega) (fun v v0 v1 => ⟨fun _ => hP v v0 (by omega), fun r hr => by cases hr⟩) (mtS_becm ha.1 hb.1)
      rw [show x + ((0 : Nat) : Int) = x by omega, show y + ((0 : Nat) : Int) = y by omega] at this
      exact this
    | succ d ih =>
      intro k σ1 hk e1 hP
      have l27 := mln_at (hm.sq e1) 1027 26 (by decide)
      refine wp_Model_isPutIn_3 ?_
      rw [if_neg (by omega)]
      refine ⟨by omega, by omega, by omega, by omega, fun s3 e3 => ⟨⟨by omega, by omega⟩, ?_⟩⟩
      have f3 : sq [(1027, 0)] σ1 s3 := by rw [e3]; exact (sq.rf _ σ1).pwa 1027 0 _ _ (by decide)
      have r3 : ∀ z : Int, ra s3 1027 0 z = if z = ((k : Nat) : Int) then -1 else ra σ1 1027 0 z := fun z => by
        rw [e3]
        unfold wa
        rw [raf_wA, if_pos ⟨rfl, rfl⟩]
        rfl
      clear e3
      rw [show ((k : Nat) : Int) + 1 = ((k + 1 : Nat) : Int) by omega]
      refine ih (k + 1) s3 (by omega) (e1.tr f3) (fun v v0 v1 => ?_)
      rw [r3]
      by_cases qv : v = ((k : Nat) : Int)
      · rw [if_pos qv]
      · rw [if_neg qv]; exact hP v v0 (by omega)
  refine wp_Model_isPutIn ?_
  exact clr 26 0 σ rfl (sq.rf _ σ) (fun v v0 v1 => absurd v1 (by omega))
end ZMu
