/-! What the search finds stands on nodes of its own: the best ones, rounds, levels, goals. -/
section ZRJ
variable {P : zP} {s s1 s2 B : zS} {x y k L H : Int} {t t' : List zI} {Y Y' : Int → Prop}
/-- where the first one that did well came to -/
def oI (B s : zS) (x : Int) (one : Option (Int × List zI × List (Int × Int))) : Prop := match one with
  | none => True
  | some o => repI ((hG s, hN s, o.2.2), s.2) ∧ stpI B ((hG s, hN s, o.2.2), s.2) (fun v => v = x) ∧ trI (hN B) (hN B) (fun _ => False) ((hG s, hN s, o.2.2), s.2) o.2.1
def canB (P : zP) (B : zS) (x k : Int) : Prop := ∃ ρ, solE (hG B) (hN B) (hE B) ρ ∧ ∃ θ : Int → List Int, (∀ v, Typ (θ v)) ∧ sbt θ (tR P.1 k 0) = ρ x
theorem trI.mem {M : zM} (h : trI L H Y s t) (h1 : s1.1 = s.1) (hM : sM s1 = sM s ++ M) : trI L H Y s1 t := by
  obtain ⟨h2, h3⟩ := h
  refine ⟨fun m hm => ?_, fun z hz => ?_⟩
  · rw [hM, (memT_ne2 (h2 m hm)).2]
    exact h2 m hm
  · have := h3 z hz
    unfold hG hN hE at this ⊢
    rw [h1]
    exact this
theorem oI.mem {M : zM} {one : Option (Int × List zI × List (Int × Int))} (h : oI B s x one) (h1 : s1.1 = s.1) (hM : sM s1 = sM s ++ M) : oI B s1 x one := by
  cases one with
  | none => trivial
  | some o =>
    obtain ⟨a1, a2, a3⟩ := h
    have e : ((hG s1, hN s1, o.2.2) : zH × Int × List (Int × Int)) = (hG s, hN s, o.2.2) := by unfold hG hN; rw [h1]
    refine ⟨?_, ?_, ?_⟩
    · show repI ((hG s1, hN s1, o.2.2), s1.2)
      rw [e]; exact a1
    · show stpI B ((hG s1, hN s1, o.2.2), s1.2) (fun v => v = x)
      rw [e]; exact a2
    · exact a3.mem (s1 := ((hG s1, hN s1, o.2.2), s1.2)) e (M := M) hM
theorem best_I {ask : Int → zS → Int → zS × zQ} {path : List (Int × Int)} {lvl cds unt : Int} (hT : tok P.1) (hR : ∀ k s y, gok s → 0 ≤ y → y < hN s → askR s (ask k s y) 0 0 0) (hI : ∀ k, askI (ask k)) (hB : gok B) (hrB : repI B) (x0 : 0 ≤ x) (x1 : x < hN B) :
    ∀ (ks : List Int) (s : zS) (f : Int) (one : Option (Int × List zI × List (Int × Int))) (another : Option Int), (∀ k, k ∈ ks → 0 ≤ k ∧ k < tG P.1 ∧ canB P B x k) → sA B ≤ sA s → sA s ≤ 200 → bI B s one → oI B s x one → ∀ t, (spBest P ask path x lvl cds unt ks s f one another).2.1.2.1 = some t → repI (spBest P ask path x lvl cds unt ks s f one another).1 ∧ stpI B (spBest P ask path x lvl cds unt ks s f one another).1 (fun v => v = x) ∧ trI (hN B) (hN B) (fun v => v = x) (spBest P ask path x lvl cds unt ks s f one another).1 t := by
  intro ks
  induction ks with
  | nil =>
    intro s f one another hks hA hA2 hbI hoI t ht
    cases one with
    | none => cases ht
    | some o =>
      cases another with
      | none =>
        obtain ⟨a1, a2, a3⟩ := hoI
        have e : zI := .inl (o.1, lvl, cds, f, unt, tN P.1 o.1, x, none)
        have et : (.inl (o.1, lvl, cds, f, unt, tN P.1 o.1, x, none) :: o.2.1 : List zI) = t := Option.some.inj ht
        rw [← et]
        refine ⟨a1, a2, fun m hm => ?_, fun z hz => ?_⟩
        · rcases List.mem_cons.mp hm with w | w
          · cases w
          · exact a3.1 m w
        · rcases List.mem_cons.mp hz with w | w
          · have w2 : z = (o.1, lvl, cds, f, unt, tN P.1 o.1, x, none) := Sum.inl.inj w
            rw [w2]
            refine ⟨Or.inl rfl, x0, ?_, fun r hr => by cases hr⟩
            have := hbI.2.1
            show x < hN s
            omega
          · obtain ⟨c1, c2⟩ := a3.2 z w
            exact ⟨Or.inr (c1.resolve_left (fun w => w)), c2⟩
      | some b => cases ht
  | cons k ks ih =>
    intro s f one another hks hA hA2 hbI hoI t ht
    have hI0 := hbI
    obtain ⟨i1, i2, i3, i4, i5⟩ := hbI
    obtain ⟨k0, k1, kc⟩ := hks k List.mem_cons_self
    have hks2 : ∀ k, k ∈ ks → 0 ≤ k ∧ k < tG P.1 ∧ canB P B x k := fun k hk => hks k (List.mem_cons_of_mem _ hk)
    have hgs : gok s := ⟨i1, by have := hB.2.1; omega, by rw [i4]; exact eok_mono hB.2.2.1 i2, hA2⟩
    have hrs : repI s := by
      obtain ⟨β, hr⟩ := hrB
      have := rep_ext i3 i2 hB.1 i1 hB.2.2.1 hr
      unfold repI
      rw [i4]
      exact ⟨β, this⟩
    unfold spBest at ht ⊢
    by_cases q : dcd (cutP s path x k) = true
    · rw [if_pos q] at ht ⊢
      exact ih (s.1, sM s, sA s, sMt s, sC s + 1, sTr s, sD s) (f + 1) one another hks2 hA hA2 hI0 (hoI.mem (M := []) rfl (by rw [List.append_nil]; rfl)) t ht
    · rw [if_neg q] at ht ⊢
      have htr := try_R (x := x) hT (hR k) hgs k0 k1 x0 (by omega)
      have hti := try_I (x := x) hT (hR k) (hI k) hgs hrs k0 k1 x0 (by omega) (can_ext hB i1 i3 i2 i4 x1 kc)
      obtain ⟨t1, t2, t3, t4⟩ := htr
      obtain ⟨M, hM⟩ := t1.2.2.2.2.2.2.2.2.2.2
      by_cases q2 : (spTry P (ask k) k x s).2.1 = 0
      · rw [if_neg (fun w => w q2)] at ht ⊢
        have bk : bI B (spBack s (spTry P (ask k) k x s).1) one := by
          refine ⟨i1, i2, i3, i4, ?_⟩
          cases one with
          | none => exact i5
          | some o =>
            have := t1.1
            show eok (hN s) o.2.2 ∧ hN s ≤ hN B + 60 + 120 * (sA (spTry P (ask k) k x s).1 - sA B) ∧ (zu (hG s) (hN s) : Int) ≤ zu (hG B) (hN B) + 26 + 52 * (sA (spTry P (ask k) k x s).1 - sA B)
            obtain ⟨j1, j2, j3⟩ := i5
            exact ⟨j1, by omega, by omega⟩
        have bo : oI B (spBack s (spTry P (ask k) k x s).1) x one := hoI.mem (M := M) rfl hM
        have eA : sA (spBack s (spTry P (ask k) k x s).1) = sA (spTry P (ask k) k x s).1 := rfl
        have h1 := t1.1
        have h2 := t1.2.1
        cases hc : (spTry P (ask k) k x s).2.2.1 with
        | none =>
          rw [hc] at ht
          exact ih _ (f + 1) one another hks2 (by rw [eA]; omega) (by rw [eA]; exact h2) bk bo t ht
        | some t1' =>
          rw [hc] at ht
          cases one with
          | none =>
            obtain ⟨g1, g2, g3, g4, g5, g6⟩ := t4 t1' hc
            obtain ⟨j1, j2⟩ := i5
            obtain ⟨u1, u2, u3⟩ := hti t1' hc
            refine ih ((hG (spTry P (ask k) k x s).1, hN (spTry P (ask k) k x s).1, hE s), (spTry P (ask k) k x s).1.2) f (some (k, t1', hE (spTry P (ask k) k x s).1)) another hks2 (by show sA B ≤ sA (spTry P (ask k) k x s).1; omega) h2 ⟨g1, ?_, ?_, i4, g4, ?_, ?_⟩ ⟨u1, ?_, ?_⟩ t ht
            · show hN B ≤ hN (spTry P (ask k) k x s).1
              omega
            · show agr (hG B) (hG (spTry P (ask k) k x s).1) (hN B)
              rw [← j1, ← j2]; exact g3
            · show hN (spTry P (ask k) k x s).1 ≤ hN B + 60 + 120 * (sA (spTry P (ask k) k x s).1 - sA B)
              omega
            · show (zu (hG (spTry P (ask k) k x s).1) (hN (spTry P (ask k) k x s).1) : Int) ≤ zu (hG B) (hN B) + 26 + 52 * (sA (spTry P (ask k) k x s).1 - sA B)
              rw [← j1, ← j2]; omega
            · show stepE (hG B) (hN B) (hE B) _ _ _ _
              rw [← j1, ← j2, ← i4]
              exact u2
            · rw [← j2]
              exact u3
          | some o => exact ih _ f (some o) (some (another.getD k)) hks2 (by rw [eA]; omega) (by rw [eA]; exact h2) bk bo t ht
      · rw [if_pos q2] at ht
        have := t3 q2
        dsimp only at ht
        rw [this] at ht
        cases ht
theorem rounds_I {ask : Int → zS → Int → zS × zQ} {path : List (Int × Int)} {lvl cds : Int} (hT : tok P.1) (hR : ∀ k s y, gok s → 0 ≤ y → y < hN s → askR s (ask k s y) 0 0 0) (hI : ∀ k, askI (ask k)) (hB : gok B) (hrB : repI B) (x0 : 0 ≤ x) (x1 : x < hN B) :
    ∀ (m : Nat) (C : List Int) (s : zS) (f : Int), (∀ k, k ∈ C → 0 ≤ k ∧ k < tG P.1 ∧ canB P B x k) → sA B ≤ sA s → sA s ≤ 200 → s.1 = B.1 → ∀ t, (spRounds P ask path x lvl cds m C s f).2.2.1 = some t → repI (spRounds P ask path x lvl cds m C s f).1 ∧ stpI B (spRounds P ask path x lvl cds m C s f).1 (fun v => v = x) ∧ trI (hN B) (hN B) (fun v => v = x) (spRounds P ask path x lvl cds m C s f).1 t := by
  intro m
  induction m with
  | zero =>
    intro C s f hC hA hA2 h1 t ht
    cases ht
  | succ m ih =>
    intro C s f hC hA hA2 h1
    unfold spRounds
    by_cases q : C = []
    · rw [if_pos q]
      intro t ht
      cases ht
    · rw [if_neg q]
      have hbs : ∀ k, k ∈ bstL P.1 C → 0 ≤ k ∧ k < tG P.1 ∧ canB P B x k := fun k hk => hC k (List.mem_filter.mp hk).1
      have hbI : bI B s none := by
        have e1 : hG s = hG B := by unfold hG; rw [h1]
        have e2 : hN s = hN B := by unfold hN; rw [h1]
        have e3 : hE s = hE B := by unfold hE; rw [h1]
        refine ⟨by rw [e1, e2]; exact hB.1, by omega, by rw [e1]; exact agr.rf _ _, e3, e1, e2⟩
      obtain ⟨a1, a2, a3, a4, a5, a6⟩ := best_R (path := path) (lvl := lvl) (cds := cds) (unt := ((C.length : Nat) - ((bstL P.1 C).length : Nat))) hT hR hB x0 x1 (bstL P.1 C) s f none none (fun k hk => ⟨(hbs k hk).1, (hbs k hk).2.1⟩) hA hA2 hbI
      have b1 := best_I (path := path) (lvl := lvl) (cds := cds) (unt := ((C.length : Nat) - ((bstL P.1 C).length : Nat))) hT hR hI hB hrB x0 x1 (bstL P.1 C) s f none none hbs hA hA2 hbI trivial
      cases hc : (spBest P ask path x lvl cds ((C.length : Nat) - ((bstL P.1 C).length : Nat)) (bstL P.1 C) s f none none).2.1.2.1 with
      | some t1 => exact b1
      | none =>
        dsimp only
        by_cases q2 : (spBest P ask path x lvl cds ((C.length : Nat) - ((bstL P.1 C).length : Nat)) (bstL P.1 C) s f none none).2.1.1 = 0
        · rw [if_neg (fun w => w q2)]
          have hA3 := a1.1
          have hA4 := a1.2.1
          exact ih (C.filter (fun k => !(bstL P.1 C).contains k)) _ _ (fun k hk => hC k (List.mem_filter.mp hk).1) (by omega) hA4 (a6 q2 hc)
        · rw [if_pos q2]
          exact b1
theorem seek_I {ask : Int → zS → Int → zS × zQ} {path : List (Int × Int)} (hT : tok P.1) (hR : ∀ k s y, gok s → 0 ≤ y → y < hN s → askR s (ask k s y) 0 0 0) (hI : ∀ k, askI (ask k)) (hB : gok B) (hrB : repI B) (x0 : 0 ≤ x) (x1 : x < hN B) :
    ∀ (m : Nat) (sc lvl : Int) (s : zS), sA B ≤ sA s → sA s ≤ 200 → s.1 = B.1 → ∀ t, (spSeek P ask path x m sc lvl s).2.2.1 = some t → repI (spSeek P ask path x m sc lvl s).1 ∧ stpI B (spSeek P ask path x m sc lvl s).1 (fun v => v = x) ∧ trI (hN B) (hN B) (fun v => v = x) (spSeek P ask path x m sc lvl s).1 t := by
  intro m
  induction m with
  | zero =>
    intro sc lvl s hA hA2 h1 t ht
    cases ht
  | succ m ih =>
    intro sc lvl s hA hA2 h1
    have e1 : hG s = hG B := by unfold hG; rw [h1]
    have e2 : hN s = hN B := by unfold hN; rw [h1]
    have e3 : hE s = hE B := by unfold hE; rw [h1]
    have hC : ∀ k, k ∈ canL P s x sc → 0 ≤ k ∧ k < tG P.1 ∧ canB P B x k := fun k hk => by
      have := canL_mem.mp hk
      refine ⟨this.1, this.2.1, ?_⟩
      unfold canB
      rw [← e1, ← e2, ← e3]
      exact this.2.2.2.2.2
    obtain ⟨a1, a2, a3, a4, a5⟩ := rounds_R (path := path) (lvl := lvl) (cds := ((canL P s x sc).length : Nat)) hT hR hB x0 x1 24 (canL P s x sc) s 0 (fun k hk => ⟨(hC k hk).1, (hC k hk).2.1⟩) hA hA2 h1
    have b1 := rounds_I (path := path) (lvl := lvl) (cds := ((canL P s x sc).length : Nat)) hT hR hI hB hrB x0 x1 24 (canL P s x sc) s 0 hC hA hA2 h1
    unfold spSeek
    cases hc : (spRounds P ask path x lvl ((canL P s x sc).length : Nat) 24 (canL P s x sc) s 0).2.2.1 with
    | some t => exact b1
    | none =>
      dsimp only
      by_cases q2 : (spRounds P ask path x lvl ((canL P s x sc).length : Nat) 24 (canL P s x sc) s 0).2.1 = 0
      · rw [if_neg (fun w => w q2)]
        by_cases q3 : tA P.1 sc = -1
        · rw [if_pos q3]
          exact b1
        · rw [if_neg q3]
          have hA3 := a1.1
          have hA4 := a1.2.1
          exact ih (tA P.1 sc) (lvl + 1) _ (by omega) hA4 (a5 q2 hc)
      · rw [if_pos q2]
        exact b1
/-- what is remembered is kept as it is -/
theorem kep_I {R : zS × zQ} (hg : gok s) (hr : repI s) (x0 : 0 ≤ x) (x1 : x < hN s) (hc : clsd (rowE (hG s) (hN s) (hE s) x) = true) (h1 : repI R.1) (h2 : stpI s R.1 (fun v => v = x)) (h3 : trI (hN s) (hN s) (fun v => v = x) R.1 t) : trI (hN s) (hN s) (fun v => v = x) R.1 (t.map (kepI R.1)) ∧ ∀ z : zN, .inl z ∈ t.map (kepI R.1) → nRw z = some (rowE (hG R.1) (hN R.1) (hE R.1) (nGl z)) := by
  obtain ⟨β, hr⟩ := hr
  obtain ⟨β1, h1⟩ := h1
  obtain ⟨b1, b2, b3, b4, D, b5, b6⟩ := h2
  have hx : rowE (hG R.1) (hN R.1) (hE R.1) x = rowE (hG s) (hN s) (hE s) x := by
    have := row_cl hg.1 b1 b3 b2 hr (by rw [← b5]; exact h1) x0 x1 hc
    rw [← b5] at this
    exact this
  have hinr : ∀ m : Nat, .inr m ∈ t.map (kepI R.1) → .inr m ∈ t := fun m hm => by
    obtain ⟨i, hi, e⟩ := List.mem_map.mp hm
    rcases i with ⟨a, b, c, d, e', u, y, r⟩ | m'
    · cases r <;> cases e
    · have e2 : (.inr m' : zI) = .inr m := e
      rw [← e2]; exact hi
  have hinl : ∀ z : zN, .inl z ∈ t.map (kepI R.1) → ∃ z0 : zN, .inl z0 ∈ t ∧ nGl z = nGl z0 ∧ ((nRw z0 = none ∧ nRw z = some (rowE (hG R.1) (hN R.1) (hE R.1) (nGl z))) ∨ (∃ r, nRw z0 = some r ∧ nRw z = some r)) := fun z hz => by
    obtain ⟨i, hi, e⟩ := List.mem_map.mp hz
    rcases i with ⟨a, b, c, d, e', u, y, r⟩ | m'
    · cases r with
      | none =>
        have e2 : (a, b, c, d, e', u, y, some (rowE (hG R.1) (hN R.1) (hE R.1) y)) = z := Sum.inl.inj e
        rw [← e2]
        exact ⟨_, hi, rfl, Or.inl ⟨rfl, rfl⟩⟩
      | some r =>
        have e2 : (a, b, c, d, e', u, y, some r) = z := Sum.inl.inj e
        rw [← e2]
        exact ⟨_, hi, rfl, Or.inr ⟨r, rfl, rfl⟩⟩
    · cases e
  refine ⟨⟨fun m hm => h3.1 m (hinr m hm), fun z hz => ?_⟩, fun z hz => ?_⟩
  · obtain ⟨z0, m0, e0, hz2⟩ := hinl z hz
    obtain ⟨c1, c2, c3, c4⟩ := h3.2 z0 m0
    rw [e0]
    refine ⟨c1, c2, c3, fun r hr2 => ?_⟩
    rcases hz2 with ⟨w1, w2⟩ | ⟨r', w1, w2⟩
    · rw [w2] at hr2
      have er := Option.some.inj hr2
      rw [e0] at er
      refine ⟨⟨c2, c3⟩, er, ?_⟩
      rcases c1 with c1 | c1
      · left
        have c1 : nGl z0 = x := c1
        rw [← er, c1, hx]
        exact hc
      · right
        refine ⟨hN s, hN R.1, x, Int.le_refl _, c1, c3, Int.le_refl _, ⟨x0, x1⟩, by rw [hx]; exact hc, fun m m0 m1 q hq => b4 m m0 m1 q hq, fun m m0 m1 => absurd m1 (by omega), fun p hp => ?_⟩
        rw [b5] at hp
        rcases List.mem_append.mp hp with a | a
        · obtain ⟨d1, d2, d3, d4⟩ := b6 p a
          refine ⟨fun _ => ?_, fun w => absurd d1 w⟩
          rcases d2 with d2 | d2
          · exact Or.inl d2
          · exact Or.inr ⟨d2, d4⟩
        · have := hg.2.2.1 p a
          exact ⟨fun w => by omega, fun _ w => by omega⟩
    · rw [w2] at hr2
      exact c4 r (by rw [w1]; exact hr2)
  · obtain ⟨z0, m0, e0, hz2⟩ := hinl z hz
    obtain ⟨c1, c2, c3, c4⟩ := h3.2 z0 m0
    rcases hz2 with ⟨w1, w2⟩ | ⟨r', w1, w2⟩
    · exact w2
    · rw [w2, e0, (c4 r' w1).2.1]
theorem ask_I (hT : tok P.1) : ∀ (m : Nat) (path : List (Int × Int)), askI (askS P m path) := by
  intro m
  induction m with
  | zero =>
    intro path s x h hr x0 x1 t ht
    cases ht
  | succ m ih =>
    intro path s x h hr x0 x1
    unfold askS
    by_cases q1 : sA s = 200
    · rw [if_pos q1]
      exact fun t ht => by cases ht
    · rw [if_neg q1]
      by_cases q2 : 20 ≤ path.length
      · rw [if_pos q2]
        exact fun t ht => by cases ht
      · rw [if_neg q2]
        by_cases q3 : 100 < (rowE (hG s) (hN s) (hE s) x).length
        · rw [if_pos q3]
          exact fun t ht => by cases ht
        · rw [if_neg q3]
          have hA := h.2.2.2
          cases hc : (if (P.2.2.2.2 && clsd (rowE (hG s) (hN s) (hE s) x)) = true then fndM (sM s) P.2.2.2.1 (rowE (hG s) (hN s) (hE s) x) else none) with
          | some j =>
            intro t ht
            dsimp only at ht ⊢
            split at ht
            · cases ht
            · rename_i hj
              have et : ([.inr j] : List zI) = t := Option.some.inj ht
              rw [← et]
              refine ⟨hr, stpI.rf h.1, fun m hm => ?_, fun z hz => ?_⟩
              · have : m = j := by
                  have := List.mem_singleton.mp hm
                  exact Sum.inr.inj this
                rw [this]; exact hj
              · have := List.mem_singleton.mp hz
                cases this
          | none =>
            dsimp only
            have hB : gok (s.1, sM s, sA s + 1, sMt s, sC s, sTr s, max (sD s) ((path.length : Nat) + 1)) := ⟨h.1, h.2.1, h.2.2.1, by show sA s + 1 ≤ 200; omega⟩
            have key := seek_I (P := P) (ask := fun k s' y => askS P m (path ++ [(k, x)]) s' y) (path := path) (x := x) (B := (s.1, sM s, sA s + 1, sMt s, sC s, sTr s, max (sD s) ((path.length : Nat) + 1))) hT (fun k s y => ask_R hT m _ s y) (fun k => ih _) hB hr x0 x1 6 P.2.2.2.1 0 (s.1, sM s, sA s + 1, sMt s, sC s, sTr s, max (sD s) ((path.length : Nat) + 1)) (Int.le_refl _) (by show sA s + 1 ≤ 200; omega) rfl
            generalize spSeek P (fun k s' y => askS P m (path ++ [(k, x)]) s' y) path x 6 P.2.2.2.1 0 (s.1, sM s, sA s + 1, sMt s, sC s, sTr s, max (sD s) ((path.length : Nat) + 1)) = R at key
            intro t ht
            unfold spKeep at ht ⊢
            by_cases q : (P.2.2.2.2 && clsd (rowE (hG s) (hN s) (hE s) x)) = true ∧ R.2.1 = 0 ∧ sC R.1 = sC s ∧ (sM R.1).length < 40
            · rw [if_pos q] at ht ⊢
              cases hc2 : R.2.2.1 with
              | none => rw [hc2] at ht; dsimp only at ht; rw [hc2] at ht; cases ht
              | some t1 =>
                rw [hc2] at ht
                dsimp only at ht ⊢
                have et : t1.map (kepI R.1) = t := Option.some.inj ht
                obtain ⟨c1, c2, c3⟩ := key t1 hc2
                have hcl : clsd (rowE (hG s) (hN s) (hE s) x) = true := by
                  have := q.1
                  rw [Bool.and_eq_true] at this
                  exact this.2
                have hk := (kep_I (s := s) h hr x0 x1 hcl c1 c2 c3).1
                rw [← et]
                exact ⟨c1, c2, hk.mem (s1 := (R.1.1, sM R.1 ++ [(P.2.2.2.1, rowE (hG s) (hN s) (hE s) x, expT (sM R.1) (t1.map (kepI R.1)))], R.1.2.2)) rfl rfl⟩
            · rw [if_neg q] at ht ⊢
              exact key t ht
end ZRJ
