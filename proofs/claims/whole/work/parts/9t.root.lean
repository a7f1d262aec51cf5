/-! The row at a tree's root is the goal's. -/
def rmM (M : zM) : Prop := (∀ e, e ∈ M → ¬ e.2.2 = [] → rwZ (e.2.2.headD d0z) = e.2.1) ∧ ∀ e, e ∈ M → ∀ z, z ∈ e.2.2 → ∃ r, nRw z = some r ∧ rwG r
def askH (ask : zS → Int → zS × zQ) : Prop := ∀ s y, gok s → repI s → 0 ≤ y → y < hN s → rmM (sM s) → rmM (sM (ask s y).1)
section ZRo
variable {P : zP} {s s1 B : zS} {x y k : Int} {M : zM} {r : List Int}
theorem needs_c {ask : zS → Int → zS × zQ} : ∀ (ys : List Int) (s : zS) (acc t : List zI), (spNeeds ask ys s acc).2.2.1 = some t → (spNeeds ask ys s acc).2.1 = 0 := by
  intro ys
  induction ys with
  | nil => intro s acc t _; rfl
  | cons y ys ih =>
    intro s acc t ht
    unfold spNeeds at ht ⊢
    cases hc : (ask s y).2.2.1 with
    | none => rw [hc] at ht; cases ht
    | some t1 => rw [hc] at ht; exact ih _ _ t ht
theorem try_c {ask : zS → Int → zS × zQ} {t : List zI} (h : (spTry P ask k x s).2.2.1 = some t) : (spTry P ask k x s).2.1 = 0 := by
  unfold spTry at h ⊢
  cases hc : (spNeeds ask (layGv P.1 k (hG s) (hN s)).2.2.2 (spLay P.1 k x s) []).2.2.1 with
  | none => rw [hc] at h; dsimp only at h; rw [hc] at h; cases h
  | some t1 =>
    rw [hc] at h
    dsimp only at h ⊢
    split at h
    · cases h
    · rename_i hq
      rw [if_neg hq]
      exact needs_c _ _ _ t1 hc
/-- a tree that is found begins with the goal -/
def hdP (x : Int) (t : List zI) : Prop := ∃ z t', t = .inl z :: t' ∧ nGl z = x ∧ nRw z = none
theorem best_hd {ask : Int → zS → Int → zS × zQ} {path : List (Int × Int)} {lvl cds unt : Int} : ∀ (ks : List Int) (s : zS) (f : Int) (one : Option (Int × List zI × List (Int × Int))) (another : Option Int) (t : List zI), (spBest P ask path x lvl cds unt ks s f one another).2.1.2.1 = some t → hdP x t := by
  intro ks
  induction ks with
  | nil =>
    intro s f one another t ht
    cases one with
    | none => cases ht
    | some o =>
      cases another with
      | none =>
        have et : (.inl (o.1, lvl, cds, f, unt, tN P.1 o.1, x, none) :: o.2.1 : List zI) = t := Option.some.inj ht
        exact ⟨_, _, et.symm, rfl, rfl⟩
      | some b => cases ht
  | cons k ks ih =>
    intro s f one another t ht
    unfold spBest at ht
    by_cases q : dcd (cutP s path x k) = true
    · rw [if_pos q] at ht
      exact ih _ _ _ _ t ht
    · rw [if_neg q] at ht
      by_cases q2 : (spTry P (ask k) k x s).2.1 = 0
      · rw [if_neg (fun w => w q2)] at ht
        cases hc : (spTry P (ask k) k x s).2.2.1 with
        | none => rw [hc] at ht; exact ih _ _ _ _ t ht
        | some t1 =>
          rw [hc] at ht
          cases one with
          | none => exact ih _ _ _ _ t ht
          | some o => exact ih _ _ _ _ t ht
      · rw [if_pos q2] at ht
        exact absurd (try_c (show (spTry P (ask k) k x s).2.2.1 = some t from ht)) q2
theorem rounds_hd {ask : Int → zS → Int → zS × zQ} {path : List (Int × Int)} {lvl cds : Int} : ∀ (m : Nat) (C : List Int) (s : zS) (f : Int) (t : List zI), (spRounds P ask path x lvl cds m C s f).2.2.1 = some t → hdP x t := by
  intro m
  induction m with
  | zero => intro C s f t ht; cases ht
  | succ m ih =>
    intro C s f t ht
    unfold spRounds at ht
    by_cases q : C = []
    · rw [if_pos q] at ht; cases ht
    · rw [if_neg q] at ht
      have hb := best_hd (P := P) (ask := ask) (path := path) (x := x) (lvl := lvl) (cds := cds) (unt := ((C.length : Nat) - ((bstL P.1 C).length : Nat))) (bstL P.1 C) s f none none
      cases hc : (spBest P ask path x lvl cds ((C.length : Nat) - ((bstL P.1 C).length : Nat)) (bstL P.1 C) s f none none).2.1.2.1 with
      | some t1 => rw [hc] at ht; exact hb t ht
      | none =>
        rw [hc] at ht
        dsimp only at ht
        split at ht
        · exact hb t ht
        · exact ih _ _ _ t ht
theorem seek_hd {ask : Int → zS → Int → zS × zQ} {path : List (Int × Int)} : ∀ (m : Nat) (sc lvl : Int) (s : zS) (t : List zI), (spSeek P ask path x m sc lvl s).2.2.1 = some t → hdP x t := by
  intro m
  induction m with
  | zero => intro sc lvl s t ht; cases ht
  | succ m ih =>
    intro sc lvl s t ht
    unfold spSeek at ht
    have hb := rounds_hd (P := P) (ask := ask) (path := path) (x := x) (lvl := lvl) (cds := ((canL P s x sc).length : Nat)) 24 (canL P s x sc) s 0
    cases hc : (spRounds P ask path x lvl ((canL P s x sc).length : Nat) 24 (canL P s x sc) s 0).2.2.1 with
    | some t1 => rw [hc] at ht; exact hb t ht
    | none =>
      rw [hc] at ht
      dsimp only at ht
      split at ht
      · exact hb t ht
      · split at ht
        · exact hb t ht
        · exact ih _ _ _ t ht
theorem needs_H {ask : zS → Int → zS × zQ} (hR : ∀ s y, gok s → 0 ≤ y → y < hN s → askR s (ask s y) 0 0 0) (hI : askI ask) (hH : askH ask) : ∀ (ys : List Int) (s : zS) (acc : List zI), gok s → repI s → (∀ y, y ∈ ys → 0 ≤ y ∧ y < hN s) → rmM (sM s) → rmM (sM (spNeeds ask ys s acc).1) := by
  intro ys
  induction ys with
  | nil => intro s acc _ _ _ h; exact h
  | cons y ys ih =>
    intro s acc h hr hy hm
    obtain ⟨y0, y1⟩ := hy y List.mem_cons_self
    have hk := hR s y h y0 y1
    have hi := hI s y h hr y0 y1
    have hh := hH s y h hr y0 y1 hm
    unfold spNeeds
    cases hc : (ask s y).2.2.1 with
    | none => exact hh
    | some t1 =>
      obtain ⟨r1, r2, r3⟩ := hi t1 hc
      have hg := hk.2.2.2 t1 hc
      have hNle := r2.2.1
      exact ih (ask s y).1 (acc ++ t1) ⟨hg.1, by have := hg.2.1; have := h.2.1; omega, hg.2.2.2.1, hk.1.2.1⟩ r1 (fun z hz => by have := hy z (List.mem_cons_of_mem _ hz); omega) hh
theorem try_H {ask : zS → Int → zS × zQ} (hT : tok P.1) (hR : ∀ s y, gok s → 0 ≤ y → y < hN s → askR s (ask s y) 0 0 0) (hI : askI ask) (hH : askH ask) (h : gok s) (hr : repI s) (k0 : 0 ≤ k) (k1 : k < tG P.1) (x0 : 0 ≤ x) (x1 : x < hN s) (hcan : ∃ ρ, solE (hG s) (hN s) (hE s) ρ ∧ ∃ θ : Int → List Int, (∀ v, Typ (θ v)) ∧ sbt θ (tR P.1 k 0) = ρ x) (hm : rmM (sM s)) : rmM (sM (spTry P ask k x s).1) := by
  obtain ⟨a1, a2, a3, a4⟩ := lay_I hT h hr k0 k1 x0 x1 hcan
  have key := needs_H hR hI hH (layGv P.1 k (hG s) (hN s)).2.2.2 (spLay P.1 k x s) [] a1 a2 (fun y hy => by have := a4 y hy; omega) hm
  unfold spTry
  cases hc : (spNeeds ask (layGv P.1 k (hG s) (hN s)).2.2.2 (spLay P.1 k x s) []).2.2.1 with
  | none => exact key
  | some t1 =>
    dsimp only
    split
    · exact key
    · exact key
theorem best_H {ask : Int → zS → Int → zS × zQ} {path : List (Int × Int)} {lvl cds unt : Int} (hT : tok P.1) (hR : ∀ k s y, gok s → 0 ≤ y → y < hN s → askR s (ask k s y) 0 0 0) (hI : ∀ k, askI (ask k)) (hH : ∀ k, askH (ask k)) (hB : gok B) (hrB : repI B) (x0 : 0 ≤ x) (x1 : x < hN B) :
    ∀ (ks : List Int) (s : zS) (f : Int) (one : Option (Int × List zI × List (Int × Int))) (another : Option Int), (∀ k, k ∈ ks → 0 ≤ k ∧ k < tG P.1 ∧ canB P B x k) → sA B ≤ sA s → sA s ≤ 200 → bI B s one → rmM (sM s) → rmM (sM (spBest P ask path x lvl cds unt ks s f one another).1) := by
  intro ks
  induction ks with
  | nil =>
    intro s f one another hks hA hA2 hbI hm
    cases one with
    | none => exact hm
    | some o => cases another <;> exact hm
  | cons k ks ih =>
    intro s f one another hks hA hA2 hbI hm
    have hI0 := hbI
    obtain ⟨i1, i2, i3, i4, i5⟩ := hbI
    obtain ⟨k0, k1, kc⟩ := hks k List.mem_cons_self
    have hks2 : ∀ k, k ∈ ks → 0 ≤ k ∧ k < tG P.1 ∧ canB P B x k := fun k hk => hks k (List.mem_cons_of_mem _ hk)
    have hgs : gok s := ⟨i1, by have := hB.2.1; omega, by rw [i4]; exact eok_mono hB.2.2.1 i2, hA2⟩
    have hrs : repI s := by
      obtain ⟨β, hr⟩ := hrB
      have := rep_ext i3 i2 hB.1 i1 hB.2.2.1 hr
      unfold repI
      rw [i4]
      exact ⟨β, this⟩
    unfold spBest
    by_cases q : dcd (cutP s path x k) = true
    · rw [if_pos q]
      exact ih (s.1, sM s, sA s, sMt s, sC s + 1, sTr s, sD s) (f + 1) one another hks2 hA hA2 hI0 hm
    · rw [if_neg q]
      have hcn := can_ext hB i1 i3 i2 i4 x1 kc
      have htr := try_R (x := x) hT (hR k) hgs k0 k1 x0 (by omega)
      have hti := try_I (x := x) hT (hR k) (hI k) hgs hrs k0 k1 x0 (by omega) hcn
      have hth := try_H (x := x) hT (hR k) (hI k) (hH k) hgs hrs k0 k1 x0 (by omega) hcn hm
      obtain ⟨t1, t2, t3, t4⟩ := htr
      by_cases q2 : (spTry P (ask k) k x s).2.1 = 0
      · rw [if_neg (fun w => w q2)]
        have bk : bI B (spBack s (spTry P (ask k) k x s).1) one := by
          refine ⟨i1, i2, i3, i4, ?_⟩
          cases one with
          | none => exact i5
          | some o =>
            have := t1.1
            show eok (hN s) o.2.2 ∧ hN s ≤ hN B + 60 + 120 * (sA (spTry P (ask k) k x s).1 - sA B) ∧ (zu (hG s) (hN s) : Int) ≤ zu (hG B) (hN B) + 26 + 52 * (sA (spTry P (ask k) k x s).1 - sA B)
            obtain ⟨j1, j2, j3⟩ := i5
            exact ⟨j1, by omega, by omega⟩
        have eA : sA (spBack s (spTry P (ask k) k x s).1) = sA (spTry P (ask k) k x s).1 := rfl
        have h1 := t1.1
        have h2 := t1.2.1
        cases hc : (spTry P (ask k) k x s).2.2.1 with
        | none => exact ih _ (f + 1) one another hks2 (by rw [eA]; omega) (by rw [eA]; exact h2) bk hth
        | some t1' =>
          cases one with
          | none =>
            obtain ⟨g1, g2, g3, g4, g5, g6⟩ := t4 t1' hc
            obtain ⟨j1, j2⟩ := i5
            refine ih ((hG (spTry P (ask k) k x s).1, hN (spTry P (ask k) k x s).1, hE s), (spTry P (ask k) k x s).1.2) f (some (k, t1', hE (spTry P (ask k) k x s).1)) another hks2 (by show sA B ≤ sA (spTry P (ask k) k x s).1; omega) h2 ⟨g1, ?_, ?_, i4, g4, ?_, ?_⟩ hth
            · show hN B ≤ hN (spTry P (ask k) k x s).1
              omega
            · show agr (hG B) (hG (spTry P (ask k) k x s).1) (hN B)
              rw [← j1, ← j2]; exact g3
            · show hN (spTry P (ask k) k x s).1 ≤ hN B + 60 + 120 * (sA (spTry P (ask k) k x s).1 - sA B)
              omega
            · show (zu (hG (spTry P (ask k) k x s).1) (hN (spTry P (ask k) k x s).1) : Int) ≤ zu (hG B) (hN B) + 26 + 52 * (sA (spTry P (ask k) k x s).1 - sA B)
              rw [← j1, ← j2]; omega
          | some o => exact ih _ f (some o) (some (another.getD k)) hks2 (by rw [eA]; omega) (by rw [eA]; exact h2) bk hth
      · rw [if_pos q2]
        exact hth
theorem rounds_H {ask : Int → zS → Int → zS × zQ} {path : List (Int × Int)} {lvl cds : Int} (hT : tok P.1) (hR : ∀ k s y, gok s → 0 ≤ y → y < hN s → askR s (ask k s y) 0 0 0) (hI : ∀ k, askI (ask k)) (hH : ∀ k, askH (ask k)) (hB : gok B) (hrB : repI B) (x0 : 0 ≤ x) (x1 : x < hN B) :
    ∀ (m : Nat) (C : List Int) (s : zS) (f : Int), (∀ k, k ∈ C → 0 ≤ k ∧ k < tG P.1 ∧ canB P B x k) → sA B ≤ sA s → sA s ≤ 200 → s.1 = B.1 → rmM (sM s) → rmM (sM (spRounds P ask path x lvl cds m C s f).1) := by
  intro m
  induction m with
  | zero => intro C s f hC hA hA2 h1 hm; exact hm
  | succ m ih =>
    intro C s f hC hA hA2 h1 hm
    unfold spRounds
    by_cases q : C = []
    · rw [if_pos q]
      exact hm
    · rw [if_neg q]
      have hbs : ∀ k, k ∈ bstL P.1 C → 0 ≤ k ∧ k < tG P.1 ∧ canB P B x k := fun k hk => hC k (List.mem_filter.mp hk).1
      have hbI : bI B s none := by
        have e1 : hG s = hG B := by unfold hG; rw [h1]
        have e2 : hN s = hN B := by unfold hN; rw [h1]
        have e3 : hE s = hE B := by unfold hE; rw [h1]
        refine ⟨by rw [e1, e2]; exact hB.1, by omega, by rw [e1]; exact agr.rf _ _, e3, e1, e2⟩
      obtain ⟨a1, a2, a3, a4, a5, a6⟩ := best_R (path := path) (lvl := lvl) (cds := cds) (unt := ((C.length : Nat) - ((bstL P.1 C).length : Nat))) hT hR hB x0 x1 (bstL P.1 C) s f none none (fun k hk => ⟨(hbs k hk).1, (hbs k hk).2.1⟩) hA hA2 hbI
      have b1 := best_H (path := path) (lvl := lvl) (cds := cds) (unt := ((C.length : Nat) - ((bstL P.1 C).length : Nat))) hT hR hI hH hB hrB x0 x1 (bstL P.1 C) s f none none hbs hA hA2 hbI hm
      cases hc : (spBest P ask path x lvl cds ((C.length : Nat) - ((bstL P.1 C).length : Nat)) (bstL P.1 C) s f none none).2.1.2.1 with
      | some t1 => exact b1
      | none =>
        dsimp only
        by_cases q2 : (spBest P ask path x lvl cds ((C.length : Nat) - ((bstL P.1 C).length : Nat)) (bstL P.1 C) s f none none).2.1.1 = 0
        · rw [if_neg (fun w => w q2)]
          have hA3 := a1.1
          have hA4 := a1.2.1
          exact ih (C.filter (fun k => !(bstL P.1 C).contains k)) _ _ (fun k hk => hC k (List.mem_filter.mp hk).1) (by omega) hA4 (a6 q2 hc) b1
        · rw [if_pos q2]
          exact b1
theorem seek_H {ask : Int → zS → Int → zS × zQ} {path : List (Int × Int)} (hT : tok P.1) (hR : ∀ k s y, gok s → 0 ≤ y → y < hN s → askR s (ask k s y) 0 0 0) (hI : ∀ k, askI (ask k)) (hH : ∀ k, askH (ask k)) (hB : gok B) (hrB : repI B) (x0 : 0 ≤ x) (x1 : x < hN B) :
    ∀ (m : Nat) (sc lvl : Int) (s : zS), sA B ≤ sA s → sA s ≤ 200 → s.1 = B.1 → rmM (sM s) → rmM (sM (spSeek P ask path x m sc lvl s).1) := by
  intro m
  induction m with
  | zero => intro sc lvl s hA hA2 h1 hm; exact hm
  | succ m ih =>
    intro sc lvl s hA hA2 h1 hm
    have e1 : hG s = hG B := by unfold hG; rw [h1]
    have e2 : hN s = hN B := by unfold hN; rw [h1]
    have e3 : hE s = hE B := by unfold hE; rw [h1]
    have hC : ∀ k, k ∈ canL P s x sc → 0 ≤ k ∧ k < tG P.1 ∧ canB P B x k := fun k hk => by
      have := canL_mem.mp hk
      refine ⟨this.1, this.2.1, ?_⟩
      unfold canB
      rw [← e1, ← e2, ← e3]
      exact this.2.2.2.2.2
    obtain ⟨a1, a2, a3, a4, a5⟩ := rounds_R (path := path) (lvl := lvl) (cds := ((canL P s x sc).length : Nat)) hT hR hB x0 x1 24 (canL P s x sc) s 0 (fun k hk => ⟨(hC k hk).1, (hC k hk).2.1⟩) hA hA2 h1
    have b1 := rounds_H (path := path) (lvl := lvl) (cds := ((canL P s x sc).length : Nat)) hT hR hI hH hB hrB x0 x1 24 (canL P s x sc) s 0 hC hA hA2 h1 hm
    unfold spSeek
    cases hc : (spRounds P ask path x lvl ((canL P s x sc).length : Nat) 24 (canL P s x sc) s 0).2.2.1 with
    | some t => exact b1
    | none =>
      dsimp only
      by_cases q2 : (spRounds P ask path x lvl ((canL P s x sc).length : Nat) 24 (canL P s x sc) s 0).2.1 = 0
      · rw [if_neg (fun w => w q2)]
        by_cases q3 : tA P.1 sc = -1
        · rw [if_pos q3]
          exact b1
        · rw [if_neg q3]
          have hA3 := a1.1
          have hA4 := a1.2.1
          exact ih (tA P.1 sc) (lvl + 1) _ (by omega) hA4 (a5 q2 hc) b1
      · rw [if_pos q2]
        exact b1
theorem hd_map {f : List Int} {i0 : zI → zI} {t : List zI} (h : hdP x t) (R : zS) (M : zM) : rwZ ((expT M (t.map (kepI R))).headD d0z) = rowE (hG R) (hN R) (hE R) x ∧ rwZ ((expT M (t.map (kpt (rowE (hG R) (hN R) (hE R))))).headD d0z) = rowE (hG R) (hN R) (hE R) x ∧ rwZ ((expT M ((t.map (kepI R)).map (kpt (rowE (hG R) (hN R) (hE R))))).headD d0z) = rowE (hG R) (hN R) (hE R) x := by
  obtain ⟨⟨a, b, c, d, e, u, w, q⟩, t', e0, e1, e2⟩ := h
  have e1 : w = x := e1
  have e2 : q = none := e2
  subst e1
  subst e2
  rw [e0]
  exact ⟨rfl, rfl, rfl⟩
theorem ask_H (hT : tok P.1) : ∀ (m : Nat) (path : List (Int × Int)), askH (askS P m path) := by
  intro m
  induction m with
  | zero => intro path s x h hr x0 x1 hm; exact hm
  | succ m ih =>
    intro path s x h hr x0 x1 hm
    unfold askS
    by_cases q1 : sA s = 200
    · rw [if_pos q1]; exact hm
    · rw [if_neg q1]
      by_cases q2 : 20 ≤ path.length
      · rw [if_pos q2]; exact hm
      · rw [if_neg q2]
        by_cases q3 : 100 < (rowE (hG s) (hN s) (hE s) x).length
        · rw [if_pos q3]; exact hm
        · rw [if_neg q3]
          have hA := h.2.2.2
          cases hc : (if (P.2.2.2.2 && clsd (rowE (hG s) (hN s) (hE s) x)) = true then fndM (sM s) P.2.2.2.1 (rowE (hG s) (hN s) (hE s) x) else none) with
          | some j => exact hm
          | none =>
            dsimp only
            have hB : gok (s.1, sM s, sA s + 1, sMt s, sC s, sTr s, max (sD s) ((path.length : Nat) + 1)) := ⟨h.1, h.2.1, h.2.2.1, by show sA s + 1 ≤ 200; omega⟩
            have key := seek_I (P := P) (ask := fun k s' y => askS P m (path ++ [(k, x)]) s' y) (path := path) (x := x) (B := (s.1, sM s, sA s + 1, sMt s, sC s, sTr s, max (sD s) ((path.length : Nat) + 1))) hT (fun k s y => ask_R hT m _ s y) (fun k => ask_I hT m _) hB hr x0 x1 6 P.2.2.2.1 0 (s.1, sM s, sA s + 1, sMt s, sC s, sTr s, max (sD s) ((path.length : Nat) + 1)) (Int.le_refl _) (by show sA s + 1 ≤ 200; omega) rfl
            have keyH := seek_H (P := P) (ask := fun k s' y => askS P m (path ++ [(k, x)]) s' y) (path := path) (x := x) (B := (s.1, sM s, sA s + 1, sMt s, sC s, sTr s, max (sD s) ((path.length : Nat) + 1))) hT (fun k s y => ask_R hT m _ s y) (fun k => ask_I hT m _) (fun k => ih _) hB hr x0 x1 6 P.2.2.2.1 0 (s.1, sM s, sA s + 1, sMt s, sC s, sTr s, max (sD s) ((path.length : Nat) + 1)) (Int.le_refl _) (by show sA s + 1 ≤ 200; omega) rfl hm
            have keyh := seek_hd (P := P) (ask := fun k s' y => askS P m (path ++ [(k, x)]) s' y) (path := path) (x := x) 6 P.2.2.2.1 0 (s.1, sM s, sA s + 1, sMt s, sC s, sTr s, max (sD s) ((path.length : Nat) + 1))
            generalize spSeek P (fun k s' y => askS P m (path ++ [(k, x)]) s' y) path x 6 P.2.2.2.1 0 (s.1, sM s, sA s + 1, sMt s, sC s, sTr s, max (sD s) ((path.length : Nat) + 1)) = R at key keyH keyh
            unfold spKeep
            split
            · rename_i hk
              cases ht : R.2.2.1 with
              | none =>
                refine ⟨fun e he hne => ?_, fun e he z hz => ?_⟩
                · rcases List.mem_append.mp he with w | w
                  · exact keyH.1 e w hne
                  · rw [List.mem_singleton] at w
                    rw [w] at hne
                    exact absurd rfl hne
                · rcases List.mem_append.mp he with w | w
                  · exact keyH.2 e w z hz
                  · rw [List.mem_singleton] at w
                    rw [w] at hz
                    cases hz
              | some t1 =>
                obtain ⟨r1, r2, r3⟩ := key t1 ht
                have hcl : clsd (rowE (hG s) (hN s) (hE s) x) = true := by
                  have := hk.1
                  rw [Bool.and_eq_true] at this
                  exact this.2
                have r10 := r1
                have hzR : zok (hG R.1) (hN R.1) := r2.1
                have hx : rowE (hG R.1) (hN R.1) (hE R.1) x = rowE (hG s) (hN s) (hE s) x := by
                  obtain ⟨β, hr⟩ := hr
                  obtain ⟨β1, r1⟩ := r1
                  obtain ⟨b1, b2, b3, b4, D, b5, b6⟩ := r2
                  have b5 : hE R.1 = D ++ hE s := b5
                  have := row_cl (g := hG s) (N := hN s) (E := hE s) h.1 b1 b3 b2 hr (by rw [← b5]; exact r1) x0 x1 hcl
                  rw [← b5] at this
                  exact this
                refine ⟨fun e he hne => ?_, fun e he z hz => ?_⟩
                · rcases List.mem_append.mp he with w | w
                  · exact keyH.1 e w hne
                  · rw [List.mem_singleton] at w
                    rw [w]
                    show rwZ ((expT (sM R.1) (t1.map (kepI R.1))).headD d0z) = rowE (hG s) (hN s) (hE s) x
                    rw [(hd_map (f := []) (i0 := id) (keyh t1 ht) R.1 (sM R.1)).1, hx]
                · rcases List.mem_append.mp he with w | w
                  · exact keyH.2 e w z hz
                  · rw [List.mem_singleton] at w
                    rw [w] at hz
                    have hz : z ∈ expT (sM R.1) (t1.map (kepI R.1)) := hz
                    unfold expT at hz
                    obtain ⟨i, hi, hz2⟩ := List.mem_flatMap.mp hz
                    rcases i with z' | m'
                    · have ez : z = z' := by simpa using hz2
                      rw [← ez] at hi
                      obtain ⟨i2, hi2, e2⟩ := List.mem_map.mp hi
                      rcases i2 with ⟨a, b, c, d, e', u, y, q⟩ | m2
                      · have hz3 := r3.2 _ hi2
                        cases q with
                        | none =>
                          have e3 : (a, b, c, d, e', u, y, some (rowE (hG R.1) (hN R.1) (hE R.1) y)) = z := Sum.inl.inj e2
                          rw [← e3]
                          exact ⟨_, rfl, rowE_G hzR r10 hz3.2.1 hz3.2.2.1⟩
                        | some r' =>
                          have e3 : (a, b, c, d, e', u, y, some r') = z := Sum.inl.inj e2
                          rw [← e3]
                          have e5 := (hz3.2.2.2 r' rfl).2.1
                          refine ⟨r', rfl, ?_⟩
                          rw [← e5]
                          exact rowE_G hzR r10 hz3.2.1 hz3.2.2.1
                      · cases e2
                    · have hz2 : z ∈ memT (sM R.1) m' := hz2
                      unfold memT at hz2
                      cases q : (sM R.1)[m']? with
                      | none => rw [q] at hz2; cases hz2
                      | some e3 =>
                        rw [q] at hz2
                        exact keyH.2 e3 (List.mem_of_getElem? q) z hz2
            · exact keyH
end ZRo
