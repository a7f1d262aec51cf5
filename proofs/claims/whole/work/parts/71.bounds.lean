/-! How far the search goes: nodes, tallies. -/
def pot (s : zS) : Int := sTr s + sC s - 144 * sA s
/-- from one state of the search to a later one -/
def gon (s s' : zS) (d : Int) : Prop := sA s ≤ sA s' ∧ sA s' ≤ 200 ∧ sMt s ≤ sMt s' ∧ sMt s' - sA s' ≤ sMt s - sA s ∧ sC s ≤ sC s' ∧ sTr s ≤ sTr s' ∧ pot s' ≤ pot s + d ∧ sD s ≤ sD s' ∧ (sD s ≤ 20 → sD s' ≤ 20) ∧ ((sM s).length ≤ 40 → (sM s').length ≤ 40) ∧ (∃ M, sM s' = sM s ++ M)
/-- nodes have been added -/
def gro (s s' : zS) (a b : Int) : Prop := zok (hG s') (hN s') ∧ hN s ≤ hN s' ∧ agr (hG s) (hG s') (hN s) ∧ eok (hN s') (hE s') ∧ hN s' ≤ hN s + a + 120 * (sA s' - sA s) ∧ (zu (hG s') (hN s') : Int) ≤ zu (hG s) (hN s) + b + 52 * (sA s' - sA s)
def gok (s : zS) : Prop := zok (hG s) (hN s) ∧ 0 ≤ hN s ∧ eok (hN s) (hE s) ∧ sA s ≤ 200
/-- what an asking comes to -/
def askR (s : zS) (R : zS × zQ) (a b d : Int) : Prop := gon s R.1 d ∧ (0 ≤ R.2.1 ∧ R.2.1 ≤ 6) ∧ (¬ R.2.1 = 0 → R.2.2.1 = none) ∧ ∀ t, R.2.2.1 = some t → gro s R.1 a b
section ZBd
variable {P : zP} {s s1 s2 s3 : zS} {a b c d e : Int}
theorem gon.rf (h : sA s ≤ 200) (hd : 0 ≤ d) : gon s s d := ⟨Int.le_refl _, h, Int.le_refl _, Int.le_refl _, Int.le_refl _, Int.le_refl _, by omega, Int.le_refl _, fun h => h, fun h => h, [], by simp⟩
theorem gon.tr (h : gon s s1 d) (h' : gon s1 s2 e) : gon s s2 (d + e) := by
  obtain ⟨a1, a2, a3, a4, a5, a6, a7, a8, a9, a10, M, a11⟩ := h
  obtain ⟨b1, b2, b3, b4, b5, b6, b7, b8, b9, b10, M', b11⟩ := h'
  exact ⟨by omega, b2, by omega, by omega, by omega, by omega, by omega, by omega, fun h => b9 (a9 h), fun h => b10 (a10 h), M ++ M', by rw [b11, a11, List.append_assoc]⟩
theorem gon.mo (h : gon s s1 d) (he : d ≤ e) : gon s s1 e := by
  obtain ⟨a1, a2, a3, a4, a5, a6, a7, a8⟩ := h
  exact ⟨a1, a2, a3, a4, a5, a6, by omega, a8⟩
/-- the nodes of s, all else of s' -/
theorem gon.bk (h : gon s s1 d) (x : zH × Int × List (Int × Int)) : gon s (x, s1.2) d := h
theorem eok_mono {N N' : Int} {E : List (Int × Int)} (h : eok N E) (hN : N ≤ N') : eok N' E := fun p hp => by
  have := h p hp
  exact ⟨⟨this.1.1, by omega⟩, this.2.1, by omega⟩
theorem needs_R {ask : zS → Int → zS × zQ} (hask : ∀ s y, gok s → 0 ≤ y → y < hN s → askR s (ask s y) 0 0 0) : ∀ (ys : List Int) (s : zS) (acc : List zI), gok s → (∀ y, y ∈ ys → 0 ≤ y ∧ y < hN s) → askR s (spNeeds ask ys s acc) 0 0 0 := by
  intro ys
  induction ys with
  | nil =>
    intro s acc h hy
    exact ⟨gon.rf h.2.2.2 (Int.le_refl _), ⟨by show (0 : Int) ≤ 0; decide, by show (0 : Int) ≤ 6; decide⟩, fun w => absurd rfl w, fun t _ => ⟨h.1, Int.le_refl _, agr.rf _ _, h.2.2.1, by show hN s ≤ hN s + 0 + 120 * (sA s - sA s); omega, by show (zu (hG s) (hN s) : Int) ≤ zu (hG s) (hN s) + 0 + 52 * (sA s - sA s); omega⟩⟩
  | cons y ys ih =>
    intro s acc h hy
    obtain ⟨y0, y1⟩ := hy y List.mem_cons_self
    have hk := hask s y h y0 y1
    show askR s (match (ask s y).2.2.1 with
      | none => ((ask s y).1, (ask s y).2.1, none, (ask s y).2.2.2)
      | some t => spNeeds ask ys (ask s y).1 (acc ++ t)) 0 0 0
    cases hc : (ask s y).2.2.1 with
    | none =>
      show askR s ((ask s y).1, (ask s y).2.1, none, (ask s y).2.2.2) 0 0 0
      exact ⟨hk.1, hk.2.1, fun _ => rfl, fun t ht => (by cases ht)⟩
    | some t =>
      show askR s (spNeeds ask ys (ask s y).1 (acc ++ t)) 0 0 0
      have hg := hk.2.2.2 t hc
      have hgk : gok (ask s y).1 := ⟨hg.1, by have := hg.2.1; have := h.2.1; omega, hg.2.2.2.1, hk.1.2.1⟩
      have := ih (ask s y).1 (acc ++ t) hgk (fun z hz => by
        have := hy z (List.mem_cons_of_mem _ hz)
        have := hg.2.1
        omega)
      obtain ⟨c1, c2, c3, c4⟩ := this
      refine ⟨(hk.1.tr c1).mo (by omega), c2, c3, fun t' ht' => ?_⟩
      obtain ⟨d1, d2, d3, d4, d5, d6⟩ := c4 t' ht'
      obtain ⟨e1, e2, e3, e4, e5, e6⟩ := hg
      exact ⟨d1, by omega, e3.tr d3 e2, d4, by omega, by omega⟩
theorem try_R {ask : zS → Int → zS × zQ} {k x : Int} (hT : tok P.1) (hask : ∀ s y, gok s → 0 ≤ y → y < hN s → askR s (ask s y) 0 0 0) (h : gok s) (k0 : 0 ≤ k) (k1 : k < tG P.1) (x0 : 0 ≤ x) (x1 : x < hN s) : askR s (spTry P ask k x s) 60 26 1 := by
  obtain ⟨l1, l2, l3, l4, l5, l6, l7, l8⟩ := lgv_ok (T := P.1) hT k0 k1 h.1 h.2.1
  have hgl : gok (spLay P.1 k x s) := by
    refine ⟨l4, Int.le_trans h.2.1 l1, fun p hp => ?_, h.2.2.2⟩
    rcases List.mem_cons.mp hp with w | w
    · rw [w]
      exact ⟨⟨l6.1, l6.2⟩, x0, Int.lt_of_lt_of_le x1 l1⟩
    · exact eok_mono h.2.2.1 l1 p w
  have hstep : gon s (spLay P.1 k x s) 1 := ⟨Int.le_refl _, h.2.2.2, Int.le_refl _, Int.le_refl _, Int.le_refl _, by show sTr s ≤ sTr s + 1; omega, by show sTr s + 1 + sC s - 144 * sA s ≤ sTr s + sC s - 144 * sA s + 1; omega, Int.le_refl _, fun h => h, fun h => h, [], by show sM s = sM s ++ []; simp⟩
  have hn := needs_R hask (layGv P.1 k (hG s) (hN s)).2.2.2 (spLay P.1 k x s) [] hgl l8
  obtain ⟨c1, c2, c3, c4⟩ := hn
  have hall : askR s (spNeeds ask (layGv P.1 k (hG s) (hN s)).2.2.2 (spLay P.1 k x s) []) 60 26 1 := by
    refine ⟨(hstep.tr c1).mo (by omega), c2, c3, fun t ht => ?_⟩
    obtain ⟨d1, d2, d3, d4, d5, d6⟩ := c4 t ht
    have f1 : hN (spLay P.1 k x s) = (layGv P.1 k (hG s) (hN s)).2.1 := rfl
    have f2 : hG (spLay P.1 k x s) = (layGv P.1 k (hG s) (hN s)).1 := rfl
    have f3 : sA (spLay P.1 k x s) = sA s := rfl
    rw [f1, f2, f3] at d6
    rw [f1, f3] at d5
    rw [f1] at d2
    exact ⟨d1, by omega, l3.tr d3 l1, d4, by omega, by omega⟩
  unfold spTry
  cases hc : (spNeeds ask (layGv P.1 k (hG s) (hN s)).2.2.2 (spLay P.1 k x s) []).2.2.1 with
  | none => exact hall
  | some t =>
    dsimp only
    split
    · exact ⟨hall.1, ⟨by show (0 : Int) ≤ 6; decide, by show (6 : Int) ≤ 6; decide⟩, fun _ => rfl, fun t ht => (by cases ht)⟩
    · exact hall
/-- the base of a goal's tries, and where they are -/
def bI (B s : zS) (one : Option (Int × List zI × List (Int × Int))) : Prop := zok (hG s) (hN s) ∧ hN B ≤ hN s ∧ agr (hG B) (hG s) (hN B) ∧ hE s = hE B ∧ match one with
  | none => hG s = hG B ∧ hN s = hN B
  | some o => eok (hN s) o.2.2 ∧ hN s ≤ hN B + 60 + 120 * (sA s - sA B) ∧ (zu (hG s) (hN s) : Int) ≤ zu (hG B) (hN B) + 26 + 52 * (sA s - sA B)
theorem best_R {ask : Int → zS → Int → zS × zQ} {path : List (Int × Int)} {x lvl cds unt : Int} {B : zS} (hT : tok P.1) (hask : ∀ k s y, gok s → 0 ≤ y → y < hN s → askR s (ask k s y) 0 0 0) (hB : gok B) (x0 : 0 ≤ x) (x1 : x < hN B) :
    ∀ (ks : List Int) (s : zS) (f : Int) (one : Option (Int × List zI × List (Int × Int))) (another : Option Int), (∀ k, k ∈ ks → 0 ≤ k ∧ k < tG P.1) → sA B ≤ sA s → sA s ≤ 200 → bI B s one → gon s (spBest P ask path x lvl cds unt ks s f one another).1 (ks.length : Nat) ∧ (0 ≤ (spBest P ask path x lvl cds unt ks s f one another).2.1.1 ∧ (spBest P ask path x lvl cds unt ks s f one another).2.1.1 ≤ 6) ∧ (¬ (spBest P ask path x lvl cds unt ks s f one another).2.1.1 = 0 → (spBest P ask path x lvl cds unt ks s f one another).2.1.2.1 = none) ∧ (∀ t, (spBest P ask path x lvl cds unt ks s f one another).2.1.2.1 = some t → gro B (spBest P ask path x lvl cds unt ks s f one another).1 60 26) ∧ (f ≤ (spBest P ask path x lvl cds unt ks s f one another).2.2 ∧ (spBest P ask path x lvl cds unt ks s f one another).2.2 ≤ f + (ks.length : Nat)) ∧ ((spBest P ask path x lvl cds unt ks s f one another).2.1.1 = 0 → (spBest P ask path x lvl cds unt ks s f one another).2.1.2.1 = none → (spBest P ask path x lvl cds unt ks s f one another).1.1 = B.1) := by
  intro ks
  induction ks with
  | nil =>
    intro s f one another hks hA hA2 hI
    obtain ⟨i1, i2, i3, i4, i5⟩ := hI
    cases one with
    | none =>
      refine ⟨gon.rf hA2 (by simp), ⟨by show (0 : Int) ≤ 0; decide, by show (0 : Int) ≤ 6; decide⟩, fun w => absurd rfl w, fun t ht => (by cases ht), ⟨Int.le_refl _, by show f ≤ f + _; omega⟩, fun _ _ => ?_⟩
      show s.1 = B.1
      obtain ⟨j1, j2⟩ := i5
      exact Prod.ext j1 (Prod.ext j2 i4)
    | some o =>
      cases another with
      | none =>
        refine ⟨gon.rf hA2 (by simp), ⟨by show (0 : Int) ≤ 0; decide, by show (0 : Int) ≤ 6; decide⟩, fun w => absurd rfl w, fun t ht => ?_, ⟨Int.le_refl _, by show f ≤ f + _; omega⟩, fun _ w => (by cases w)⟩
        exact ⟨i1, i2, i3, i5.1, i5.2.1, i5.2.2⟩
      | some b =>
        exact ⟨gon.rf hA2 (by simp), ⟨by show (0 : Int) ≤ 2; decide, by show (2 : Int) ≤ 6; decide⟩, fun _ => rfl, fun t ht => (by cases ht), ⟨Int.le_refl _, by show f ≤ f + _; omega⟩, fun w => absurd w (by show ¬ (2 : Int) = 0; decide)⟩
  | cons k ks ih =>
    intro s f one another hks hA hA2 hI
    have hI0 := hI
    obtain ⟨i1, i2, i3, i4, i5⟩ := hI
    obtain ⟨k0, k1⟩ := hks k List.mem_cons_self
    have hks2 : ∀ k, k ∈ ks → 0 ≤ k ∧ k < tG P.1 := fun k hk => hks k (List.mem_cons_of_mem _ hk)
    have hgs : gok s := ⟨i1, by have := hB.2.1; omega, by rw [i4]; exact eok_mono hB.2.2.1 i2, hA2⟩
    have hlen : ((k :: ks).length : Int) = (ks.length : Nat) + 1 := by rw [List.length_cons]; omega
    rw [hlen]
    unfold spBest
    by_cases q : dcd (cutP s path x k) = true
    · rw [if_pos q]
      have hst : gon s (s.1, sM s, sA s, sMt s, sC s + 1, sTr s, sD s) 1 := ⟨Int.le_refl _, hA2, Int.le_refl _, Int.le_refl _, by show sC s ≤ sC s + 1; omega, Int.le_refl _, by show sTr s + (sC s + 1) - 144 * sA s ≤ sTr s + sC s - 144 * sA s + 1; omega, Int.le_refl _, fun h => h, fun h => h, [], by show sM s = sM s ++ []; simp⟩
      obtain ⟨a1, a2, a3, a4, a5, a6⟩ := ih (s.1, sM s, sA s, sMt s, sC s + 1, sTr s, sD s) (f + 1) one another hks2 hA hA2 hI0
      exact ⟨(hst.tr a1).mo (by omega), a2, a3, a4, by omega, a6⟩
    · rw [if_neg q]
      have ht := try_R (x := x) hT (hask k) hgs k0 k1 x0 (by omega)
      obtain ⟨t1, t2, t3, t4⟩ := ht
      by_cases q2 : (spTry P (ask k) k x s).2.1 = 0
      · rw [if_neg (fun w => w q2)]
        have bk : bI B (spBack s (spTry P (ask k) k x s).1) one := by
          refine ⟨i1, i2, i3, i4, ?_⟩
          cases one with
          | none => exact i5
          | some o =>
            have e1 : sA (spBack s (spTry P (ask k) k x s).1) = sA (spTry P (ask k) k x s).1 := rfl
            have e2 : hN (spBack s (spTry P (ask k) k x s).1) = hN s := rfl
            have e3 : hG (spBack s (spTry P (ask k) k x s).1) = hG s := rfl
            have := t1.1
            show eok (hN s) o.2.2 ∧ hN s ≤ hN B + 60 + 120 * (sA (spTry P (ask k) k x s).1 - sA B) ∧ (zu (hG s) (hN s) : Int) ≤ zu (hG B) (hN B) + 26 + 52 * (sA (spTry P (ask k) k x s).1 - sA B)
            obtain ⟨j1, j2, j3⟩ := i5
            exact ⟨j1, by omega, by omega⟩
        have go : ∀ (f' : Int) (one' : Option (Int × List zI × List (Int × Int))) (an' : Option Int) (s' : zS), s'.2 = (spTry P (ask k) k x s).1.2 → bI B s' one' → (f ≤ f' ∧ f' ≤ f + 1) → gon s (spBest P ask path x lvl cds unt ks s' f' one' an').1 ((ks.length : Nat) + 1) ∧ (0 ≤ (spBest P ask path x lvl cds unt ks s' f' one' an').2.1.1 ∧ (spBest P ask path x lvl cds unt ks s' f' one' an').2.1.1 ≤ 6) ∧ (¬ (spBest P ask path x lvl cds unt ks s' f' one' an').2.1.1 = 0 → (spBest P ask path x lvl cds unt ks s' f' one' an').2.1.2.1 = none) ∧ (∀ t, (spBest P ask path x lvl cds unt ks s' f' one' an').2.1.2.1 = some t → gro B (spBest P ask path x lvl cds unt ks s' f' one' an').1 60 26) ∧ (f ≤ (spBest P ask path x lvl cds unt ks s' f' one' an').2.2 ∧ (spBest P ask path x lvl cds unt ks s' f' one' an').2.2 ≤ f + ((ks.length : Nat) + 1)) ∧ ((spBest P ask path x lvl cds unt ks s' f' one' an').2.1.1 = 0 → (spBest P ask path x lvl cds unt ks s' f' one' an').2.1.2.1 = none → (spBest P ask path x lvl cds unt ks s' f' one' an').1.1 = B.1) := by
          intro f' one' an' s' hs2 hI' hf'
          have eA : sA s' = sA (spTry P (ask k) k x s).1 := by unfold sA; rw [hs2]
          have hst : gon s s' 1 := by
            have e : s' = (s'.1, (spTry P (ask k) k x s).1.2) := by rw [← hs2]
            rw [e]
            exact t1.bk s'.1
          have := t1.1
          have := t1.2.1
          obtain ⟨a1, a2, a3, a4, a5, a6⟩ := ih s' f' one' an' hks2 (by omega) (by omega) hI'
          exact ⟨(hst.tr a1).mo (by omega), a2, a3, a4, by omega, a6⟩
        cases hc : (spTry P (ask k) k x s).2.2.1 with
        | none => exact go (f + 1) one another _ rfl bk ⟨by omega, by omega⟩
        | some t =>
          cases one with
          | none =>
            obtain ⟨g1, g2, g3, g4, g5, g6⟩ := t4 t hc
            obtain ⟨j1, j2⟩ := i5
            refine go f (some (k, t, hE (spTry P (ask k) k x s).1)) another _ rfl ⟨g1, ?_, ?_, i4, g4, ?_, ?_⟩ ⟨by omega, by omega⟩
            · show hN B ≤ hN (spTry P (ask k) k x s).1
              omega
            · show agr (hG B) (hG (spTry P (ask k) k x s).1) (hN B)
              rw [← j1, ← j2]; exact g3
            · show hN (spTry P (ask k) k x s).1 ≤ hN B + 60 + 120 * (sA (spTry P (ask k) k x s).1 - sA B)
              omega
            · show (zu (hG (spTry P (ask k) k x s).1) (hN (spTry P (ask k) k x s).1) : Int) ≤ zu (hG B) (hN B) + 26 + 52 * (sA (spTry P (ask k) k x s).1 - sA B)
              rw [← j1, ← j2]; omega
          | some o => exact go f (some o) (some (another.getD k)) _ rfl bk ⟨by omega, by omega⟩
      · rw [if_pos q2]
        exact ⟨t1.mo (by omega), t2, t3, fun t ht => (by
          have := t3 q2
          rw [this] at ht
          cases ht), ⟨Int.le_refl _, by show f ≤ f + _; omega⟩, fun w => absurd w q2⟩
end ZBd
