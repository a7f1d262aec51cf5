/-! Whether one type becomes another: the class. -/
section ZMw
variable {n : Nat} {σ σ1 : jS} {mo o1 o2 : Int} {ra0 rb0 : List Int}
theorem gd_at {l : List Int} {p k L : Nat} (h : k < L) : ((l.drop p).take L).getD k 0 = l.getD (p + k) 0 := by
  rw [List.getD_eq_getElem?_getD, List.getElem?_take_of_lt h, List.getElem?_drop, ← List.getD_eq_getElem?_getD]
/-- two places are compared -/
theorem c_put51 {Q : Int → jS → Prop} {pos p L : Nat} (hn : 1 ≤ n) (h : fT σ o2 ra0) (ha : rwk ra0) (h1 : pos ≤ p) (h2 : p + L ≤ ra0.length)
    (hOK : (∀ k : Nat, k < L → ra0.getD (pos + k) 0 = ra0.getD (p + k) 0) → Q 1 σ)
    (hNo : ∀ k : Nat, k < L → ¬ ra0.getD (pos + k) 0 = ra0.getD (p + k) 0 → Q 0 σ) :
    ∀ (d k : Nat), k + d = L → (∀ j : Nat, j < k → ra0.getD (pos + j) 0 = ra0.getD (p + j) 0) → J n c_Match_put (some .boolean) 51 [none, none, some (jo 0 o2), some (ji ((p : Nat) : Int)), some (ji ((pos : Nat) : Int)), some (ji ((L : Nat) : Int)), some (ji ((k : Nat) : Int))] [] σ (qI Q) := by
  have o0 := h.1
  have h12 := ha.2.2
  intro d
  induction d with
  | zero =>
    intro k hk he
    refine wp_Match_put_51 ?_
    rw [if_pos (by omega)]
    exact hOK (fun j hj2 => he j (by omega))
  | succ d ih =>
    intro k hk he
    refine wp_Match_put_51 ?_
    rw [if_neg (by omega), show ((pos : Nat) : Int) + ((k : Nat) : Int) = ((pos + k : Nat) : Int) by omega, show ((p : Nat) : Int) + ((k : Nat) : Int) = ((p + k : Nat) : Int) by omega]
    refine ⟨o0, ⟨by omega, by omega⟩, hn, c_at h (show pos + k < ra0.length by omega) ⟨⟨by omega, by omega⟩, c_at h (show p + k < ra0.length by omega) ?_⟩⟩
    have tg : ∀ q : Nat, q < ra0.length → ra0.getD q 0 < 104 := fun q hq => by
      rw [List.getD_eq_getElem?_getD, List.getElem?_eq_getElem hq]
      have := ha.2.1 _ (List.getElem_mem hq)
      unfold thg at this
      exact this.2
    by_cases qe : ra0.getD (pos + k) 0 = ra0.getD (p + k) 0
    · rw [if_pos (by rw [qe])]
      refine ⟨⟨by omega, by omega⟩, ?_⟩
      rw [show ((k : Nat) : Int) + 1 = ((k + 1 : Nat) : Int) by omega]
      refine ih (k + 1) (by omega) (fun j hj2 => ?_)
      by_cases qj : j = k
      · subst qj; exact qe
      · exact he j (by omega)
    · rw [if_neg (fun w => qe (cc_inj (tg _ (by omega)) (tg _ (by omega)) w))]
      exact hNo k (by omega) qe
set_option maxRecDepth 8000 in
theorem c_becomes {Q : Int → jS → Prop} (hn : 5 ≤ n) (hm : rl σ 4000 mo = 26) (m0 : 0 ≤ mo) (hA : fT σ o2 ra0) (hB : fT σ o1 rb0) (ha : rwk ra0) (hb : rwk rb0)
    (hq : ∀ v σ', sq [(4000, mo)] σ σ' → (v = 0 ∨ v = 1) → (v = 1 ↔ becm rb0 ra0) → Q v σ') : TrI n i_Match_becomes [jo 4 mo, jo 0 o1, jo 0 o2] σ Q := by
  have o10 := hB.1
  have o20 := hA.1
  have ha12 := ha.2.2
  have hb12 := hb.2.2
  have loop : ∀ (bs as : List Int) (k p j : Nat) (m : Int → Option (List Int)) (σ1 : jS), rdk bs k = some [] → rdk as k = some [] → sq [(4000, mo)] σ σ1 → ra0.drop p = as → p ≤ ra0.length → rb0.drop j = bs → j + bs.length = rb0.length → (∀ v : Int, 0 ≤ v → v < 26 → (m (-1 - v) = none → ra σ1 4000 mo v = -1) ∧ ∀ r, m (-1 - v) = some r → Typ r ∧ ∃ pos : Nat, ra σ1 4000 mo v = ((pos : Nat) : Int) ∧ pos + r.length ≤ p ∧ ∀ k : Nat, k < r.length → ra0.getD (pos + k) 0 = r.getD k 0) → (mtS bs as m = true ↔ becm rb0 ra0) → J n c_Match_becomes (some .boolean) 13 [some (jo 4 mo), some (jo 0 o1), some (jo 0 o2), some (ji ((p : Nat) : Int)), some (ji ((j : Nat) : Int)), none] [] σ1 (qI Q) := by
    intro bs
    induction bs with
    | nil =>
      intro as k p j m σ1 h1 h2 e1 hda hp hdb hjl hP hS
      have hj0 : j + 0 = rb0.length := hjl
      have f1 : fT σ1 o1 rb0 := hB.sq e1 (by simp)
      refine wp_Match_becomes_13 ⟨o10, ?_⟩
      rw [f1.2.1, if_pos (by omega)]
      exact hq 1 σ1 e1 (Or.inr rfl) ⟨fun _ => hS.mp rfl, fun _ => rfl⟩
    | cons t bs ih =>
      intro as k p j m σ1 h1 h2 e1 hda hp hdb hjl hP hS
      have f1 : fT σ1 o1 rb0 := hB.sq e1 (by simp)
      have f2 : fT σ1 o2 ra0 := hA.sq e1 (by simp)
      obtain ⟨j1, j2, j3⟩ := gd_drop hdb
      rw [List.length_cons] at hjl
      have tg : thg t := by
        rw [← j2, List.getD_eq_getElem?_getD, List.getElem?_eq_getElem j1]
        exact hb.2.1 _ (List.getElem_mem j1)
      unfold thg at tg
      cases k with
      | zero => rw [rdk_0] at h1; cases h1
      | succ k =>
        have h1b : rdk bs (k + pN t) = some [] := h1
        have hal : as.length + p = ra0.length := by
          have := congrArg List.length hda
          rw [List.length_drop] at this
          omega
        refine wp_Match_becomes_13 ⟨o10, ?_⟩
        rw [f1.2.1, if_neg (by omega)]
        refine ⟨by omega, c_at f1 j1 ?_⟩
        rw [j2]
        by_cases q : t < 0
        · have ec : cc t = 103 - t := by unfold cc; rw [if_pos q]
          rw [ec, if_neg (by omega)]
          have h1c : rdk bs k = some [] := by
            have e0 : pN t = 0 := by unfold pN; rw [if_pos q]
            rw [e0] at h1b
            exact h1b
          have h2' := h2
          rw [Nat.add_comm] at h2'
          obtain ⟨s1, s2, s3⟩ := tkL_split h2'
          have hty : Typ (as.take (tkL as 1)) := s1
          have hlt : (as.take (tkL as 1)).length = tkL as 1 := by rw [List.length_take]; omega
          have hd2 : ra0.drop (p + tkL as 1) = as.drop (tkL as 1) := by rw [← hda, List.drop_drop]
          have hgt : ∀ k2 : Nat, k2 < tkL as 1 → ra0.getD (p + k2) 0 = (as.take (tkL as 1)).getD k2 0 := fun k2 hk2 => by
            rw [← gd_at (L := tkL as 1) hk2, hda]
          obtain ⟨p1, p2⟩ := hP (-1 - t) (by omega) (by omega)
          rw [show -1 - (-1 - t) = t by omega] at p1 p2
          -- what is behind
          have next : ∀ (s13 : jS) (m' : Int → Option (List Int)), sq [(4000, mo)] σ s13 → (∀ v : Int, 0 ≤ v → v < 26 → (m' (-1 - v) = none → ra s13 4000 mo v = -1) ∧ ∀ r, m' (-1 - v) = some r → Typ r ∧ ∃ pos : Nat, ra s13 4000 mo v = ((pos : Nat) : Int) ∧ pos + r.length ≤ p + tkL as 1 ∧ ∀ k : Nat, k < r.length → ra0.getD (pos + k) 0 = r.getD k 0) → (mtS bs (as.drop (tkL as 1)) m' = true ↔ becm rb0 ra0) → TrI (n - 1) i_Flat_behind [jo 0 o2, ji ((p : Nat) : Int)] s13 (fun zr16 zs15 => i32 (((j : Nat) : Int) + 1) ∧ J n c_Match_becomes (some .boolean) 13 [some (jo 4 mo), some (jo 0 o1), some (jo 0 o2), some (ji zr16), some (ji (((j : Nat) : Int) + 1)), none] [] zs15 (qI Q)) := by
            intro s13 m' e13 hP' hS'
            refine wp_Flat_behind ?_
            refine c_fbehind (by omega) (hA.sq e13 (by simp)) ha as 1 k p hda hp h2' ⟨⟨by omega, by omega⟩, ?_⟩
            rw [show ((j : Nat) : Int) + 1 = ((j + 1 : Nat) : Int) by omega]
            exact ih (as.drop (tkL as 1)) k (p + tkL as 1) (j + 1) m' s13 h1c s2 e13 hd2 (by omega) j3 (by omega) hP' hS'
          refine ⟨m0, ⟨by omega, by omega⟩, o20, wp_Match_put ?_⟩
          rw [show 103 - t - 104 = -1 - t by omega, if_neg (by omega), if_pos (by omega), e1.nrl 4000 mo, hm]
          refine ⟨m0, by omega, by omega, by omega, ?_⟩
          cases hmt : m t with
          | none =>
            rw [if_neg (fun w => w (p1 hmt))]
            intro s10 e10
            have f10 : sq [(4000, mo)] σ1 s10 := by rw [e10]; exact (sq.rf _ σ1).pwa 4000 mo _ _ (List.contains_iff_mem.mpr List.mem_cons_self)
            have r10 : ∀ z : Int, ra s10 4000 mo z = if z = -1 - t then ((p : Nat) : Int) else ra σ1 4000 mo z := fun z => by
              rw [e10]
              unfold wa
              rw [raf_wA, if_pos ⟨rfl, rfl⟩]
              rfl
            clear e10
            have hS2 : mtS (t :: bs) as m = mtS bs (as.drop (tkL as 1)) (fun v => if v = t then some (as.take (tkL as 1)) else m v) := by
              conv => lhs; unfold mtS
              rw [if_pos q, hmt]
            rw [hS2] at hS
            rw [if_pos (by decide)]
            refine next s10 _ (e1.tr f10) (fun v v0 v1 => ?_) hS
            rw [r10]
            by_cases qv : -1 - v = t
            · rw [if_pos qv, if_pos (by omega)]
              refine ⟨fun w => (by cases w), fun r hr => ?_⟩
              have er := Option.some.inj hr
              rw [← er]
              exact ⟨hty, p, rfl, by rw [hlt]; omega, fun k2 hk2 => hgt k2 (by omega)⟩
            · rw [if_neg qv, if_neg (by omega)]
              obtain ⟨u1, u2⟩ := hP v v0 v1
              exact ⟨u1, fun r hr => by
                obtain ⟨w1, pos, w2, w3, w4⟩ := u2 r hr
                exact ⟨w1, pos, w2, by omega, w4⟩⟩
          | some r' =>
            obtain ⟨w1, pos, w2, w3, w4⟩ := p2 r' hmt
            have hS2 : mtS (t :: bs) as m = (decide (r' = as.take (tkL as 1)) && mtS bs (as.drop (tkL as 1)) m) := by
              conv => lhs; unfold mtS
              rw [if_pos q, hmt]
            rw [w2, if_pos (by omega)]
            refine ⟨o20, by omega, wp_Flat_behind ?_⟩
            refine c_fbehind (by omega) f2 ha as 1 k p hda hp h2' ⟨⟨by omega, by omega⟩, ?_⟩
            rw [show ((p + tkL as 1 : Nat) : Int) - ((p : Nat) : Int) = ((tkL as 1 : Nat) : Int) by omega]
            refine c_put51 (pos := pos) (p := p) (L := tkL as 1) (by omega) f2 ha (by omega) (by omega) (fun hall => ?_) (fun k2 hk2 hne => ?_) (tkL as 1) 0 (by omega) (fun j2 hj2 => absurd hj2 (by omega))
            · have er : r' = as.take (tkL as 1) := pfx_eq w1 hty (fun k2 k3 k4 => by
                rw [← w4 k2 k3, ← hgt k2 (by omega)]
                exact hall k2 (by omega))
              rw [hS2, decide_eq_true er, Bool.true_and] at hS
              rw [if_pos (by decide)]
              refine next σ1 m e1 (fun v v0 v1 => ?_) hS
              obtain ⟨u1, u2⟩ := hP v v0 v1
              exact ⟨u1, fun r hr => by
                obtain ⟨x1, pos', x2, x3, x4⟩ := u2 r hr
                exact ⟨x1, pos', x2, by omega, x4⟩⟩
            · have hne2 : ¬ r' = as.take (tkL as 1) := fun er => hne (by
                rw [hgt k2 hk2, w4 k2 (by rw [er]; omega), er])
              rw [hS2, decide_eq_false hne2, Bool.false_and] at hS
              rw [if_neg (fun w => w rfl)]
              exact hq 0 σ1 e1 (Or.inl rfl) ⟨fun w => by omega, fun w => absurd (hS.mpr w) (by decide)⟩
        · have ec : cc t = t := by unfold cc; rw [if_neg q]
          rw [ec, if_pos (by omega)]
          cases as with
          | nil => cases h2
          | cons s as =>
            have h2b : rdk as (k + pN s) = some [] := h2
            obtain ⟨i1, i2, i3⟩ := gd_drop hda
            have sg2 : thg s := by
              rw [← i2, List.getD_eq_getElem?_getD, List.getElem?_eq_getElem i1]
              exact ha.2.1 _ (List.getElem_mem i1)
            unfold thg at sg2
            have hS2 : mtS (t :: bs) (s :: as) m = (decide (s = t) && mtS bs as m) := by
              conv => lhs; unfold mtS
              rw [if_neg q]
              congr 1
              show decide (some s = some t) = decide (s = t)
              by_cases qs : s = t
              · subst qs; rw [decide_eq_true rfl, decide_eq_true rfl]
              · rw [decide_eq_false qs, decide_eq_false (fun w => qs (Option.some.inj w))]
            refine ⟨o20, c_at f2 i1 ?_⟩
            rw [i2]
            have ecs : t = cc s ↔ s = t := by
              constructor
              · intro w
                exact (cc_inj (by omega) (by omega) (by rw [ec]; exact w)).symm
              · intro w
                rw [w, ec]
            by_cases qs : s = t
            · rw [if_neg (fun w => w (ecs.mpr qs))]
              rw [hS2, decide_eq_true qs, Bool.true_and] at hS
              subst qs
              refine ⟨⟨by omega, by omega⟩, ⟨by omega, by omega⟩, ?_⟩
              rw [show ((p : Nat) : Int) + 1 = ((p + 1 : Nat) : Int) by omega, show ((j : Nat) : Int) + 1 = ((j + 1 : Nat) : Int) by omega]
              refine ih as (k + pN s) (p + 1) (j + 1) m σ1 h1b h2b e1 i3 (by omega) j3 (by omega) (fun v v0 v1 => ?_) hS
              obtain ⟨u1, u2⟩ := hP v v0 v1
              exact ⟨u1, fun r hr => by
                obtain ⟨x1, pos', x2, x3, x4⟩ := u2 r hr
                exact ⟨x1, pos', x2, by omega, x4⟩⟩
            · rw [if_pos (fun w => qs (ecs.mp w))]
              rw [hS2, decide_eq_false qs, Bool.false_and] at hS
              exact hq 0 σ1 e1 (Or.inl rfl) ⟨fun w => by omega, fun w => absurd (hS.mpr w) (by decide)⟩
  refine wp_Match_becomes ⟨m0, by omega, by omega, c_fill (by decide) (by decide) (by omega) (fun s4 f4 r4 => ?_)⟩
  exact loop rb0 ra0 1 0 0 (fun _ => none) s4 hb.1 ha.1 f4 rfl (Nat.zero_le _) rfl (by omega) (fun v v0 v1 => ⟨fun _ => r4 v v0 (by omega), fun r hr => by cases hr⟩) (mtS_becm ha.1 hb.1)
end ZMw
