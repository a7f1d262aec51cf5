/-! What each node of a tree is, whatever is asked: its given one is one, it has its needs below, and what was tried adds up. -/
def gdZ (T : zT) (z : zN) : Prop := 0 ≤ z.1 ∧ z.1 < tG T ∧ z.2.2.2.2.2.1 = tN T z.1 ∧ z.2.2.2.2.1 = z.2.2.1 - z.2.2.2.1 - 1 ∧ 0 ≤ z.2.2.2.2.1 ∧ z.2.2.2.2.1 ≤ 24
def gdT (T : zT) (t : List zI) : Prop := ∀ z : zN, .inl z ∈ t → gdZ T z
def gdM (T : zT) (M : zM) : Prop := ∀ e, e ∈ M → ∀ z, z ∈ e.2.2 → gdZ T z
def askG (T : zT) (ask : zS → Int → zS × zQ) : Prop := ∀ s y, gdM T (sM s) → gdM T (sM (ask s y).1) ∧ ∀ t, (ask s y).2.2.1 = some t → gdT T t
section ZGd
variable {P : zP} {s s1 : zS} {x y k : Int} {t t' : List zI} {T : zT} {M : zM}
theorem gdT_ap (h : gdT T t) (h' : gdT T t') : gdT T (t ++ t') := fun z hz => (List.mem_append.mp hz).elim (h z) (h' z)
theorem needs_G {ask : zS → Int → zS × zQ} (hG2 : askG T ask) : ∀ (ys : List Int) (s : zS) (acc : List zI), gdM T (sM s) → gdT T acc → gdM T (sM (spNeeds ask ys s acc).1) ∧ ∀ t, (spNeeds ask ys s acc).2.2.1 = some t → gdT T t := by
  intro ys
  induction ys with
  | nil =>
    intro s acc h ha
    exact ⟨h, fun t ht => by rw [← Option.some.inj ht]; exact ha⟩
  | cons y ys ih =>
    intro s acc h ha
    obtain ⟨a1, a2⟩ := hG2 s y h
    unfold spNeeds
    cases hc : (ask s y).2.2.1 with
    | none => exact ⟨a1, fun t ht => by cases ht⟩
    | some t => exact ih (ask s y).1 (acc ++ t) a1 (gdT_ap ha (a2 t hc))
theorem try_G {ask : zS → Int → zS × zQ} (hG2 : askG P.1 ask) (h : gdM P.1 (sM s)) : gdM P.1 (sM (spTry P ask k x s).1) ∧ ∀ t, (spTry P ask k x s).2.2.1 = some t → gdT P.1 t := by
  have a := needs_G hG2 (layGv P.1 k (hG s) (hN s)).2.2.2 (spLay P.1 k x s) [] h (fun z hz => by cases hz)
  unfold spTry
  cases hc : (spNeeds ask (layGv P.1 k (hG s) (hN s)).2.2.2 (spLay P.1 k x s) []).2.2.1 with
  | none => exact ⟨a.1, fun t ht => a.2 t ht⟩
  | some t =>
    dsimp only
    split
    · exact ⟨a.1, fun t ht => by cases ht⟩
    · exact a
theorem best_G {ask : Int → zS → Int → zS × zQ} {path : List (Int × Int)} {lvl cds unt c0 : Int} (hG2 : ∀ k, askG P.1 (ask k)) (hu : unt = cds - c0) (hu0 : 0 ≤ unt ∧ unt ≤ 24) :
    ∀ (ks : List Int) (s : zS) (f : Int) (one : Option (Int × List zI × List (Int × Int))) (another : Option Int), (∀ k, k ∈ ks → 0 ≤ k ∧ k < tG P.1) → gdM P.1 (sM s) → (∀ o, one = some o → (0 ≤ o.1 ∧ o.1 < tG P.1) ∧ gdT P.1 o.2.1) → (one = none → another = none) → (another = none → f + ((ks.length : Nat) : Int) = c0 - (if one = none then 0 else 1)) →
    gdM P.1 (sM (spBest P ask path x lvl cds unt ks s f one another).1) ∧ (∀ t, (spBest P ask path x lvl cds unt ks s f one another).2.1.2.1 = some t → gdT P.1 t) ∧ ((spBest P ask path x lvl cds unt ks s f one another).2.1.2.1 = none → (spBest P ask path x lvl cds unt ks s f one another).2.1.1 = 0 → (spBest P ask path x lvl cds unt ks s f one another).2.2 = c0) := by
  intro ks
  induction ks with
  | nil =>
    intro s f one another hks hM ho ha hc
    cases one with
    | none =>
      have := hc (ha rfl)
      rw [if_pos rfl] at this
      exact ⟨hM, fun t ht => (by cases ht), fun _ _ => by show f = c0; have e : f + (((([] : List Int)).length : Nat) : Int) = c0 - 0 := this; rw [List.length_nil] at e; omega⟩
    | some o =>
      obtain ⟨o1, o2⟩ := ho o rfl
      cases another with
      | none =>
        have := hc rfl
        rw [if_neg (fun w => by cases w), List.length_nil] at this
        refine ⟨hM, fun t ht => ?_, fun w => by cases w⟩
        have et : (.inl (o.1, lvl, cds, f, unt, tN P.1 o.1, x, none) :: o.2.1 : List zI) = t := Option.some.inj ht
        rw [← et]
        intro z hz
        rcases List.mem_cons.mp hz with w | w
        · have w2 : z = (o.1, lvl, cds, f, unt, tN P.1 o.1, x, none) := Sum.inl.inj w
          rw [w2]
          exact ⟨o1.1, o1.2, rfl, by show unt = cds - f - 1; omega, hu0.1, hu0.2⟩
        · exact o2 z w
      | some b => exact ⟨hM, fun t ht => (by cases ht), fun _ w => by cases w⟩
  | cons k ks ih =>
    intro s f one another hks hM ho ha hc
    have hk := hks k List.mem_cons_self
    have hks2 : ∀ k, k ∈ ks → 0 ≤ k ∧ k < tG P.1 := fun k hk => hks k (List.mem_cons_of_mem _ hk)
    have tg := try_G (x := x) (k := k) (hG2 k) hM
    rw [List.length_cons] at hc
    unfold spBest
    by_cases q : dcd (cutP s path x k) = true
    · rw [if_pos q]
      exact ih (s.1, sM s, sA s, sMt s, sC s + 1, sTr s, sD s) (f + 1) one another hks2 hM ho ha (fun w => by have := hc w; omega)
    · rw [if_neg q]
      by_cases q2 : (spTry P (ask k) k x s).2.1 = 0
      · rw [if_neg (fun w => w q2)]
        cases hcs : (spTry P (ask k) k x s).2.2.1 with
        | none => exact ih (spBack s (spTry P (ask k) k x s).1) (f + 1) one another hks2 tg.1 ho ha (fun w => by have := hc w; omega)
        | some t1 =>
          cases one with
          | none =>
            refine ih ((hG (spTry P (ask k) k x s).1, hN (spTry P (ask k) k x s).1, hE s), (spTry P (ask k) k x s).1.2) f (some (k, t1, hE (spTry P (ask k) k x s).1)) another hks2 tg.1 (fun o e => ?_) (fun w => by cases w) (fun w => ?_)
            · rw [← Option.some.inj e]
              exact ⟨hk, tg.2 t1 hcs⟩
            · have := hc w
              rw [if_pos rfl] at this
              rw [if_neg (fun w => by cases w)]
              omega
          | some o => exact ih (spBack s (spTry P (ask k) k x s).1) f (some o) (some (another.getD k)) hks2 tg.1 ho (fun w => by cases w) (fun w => by cases w)
      · rw [if_pos q2]
        exact ⟨tg.1, fun t ht => tg.2 t ht, fun _ w => absurd w q2⟩
theorem flt_two {p : Int → Bool} : ∀ C : List Int, (C.filter (fun k => !p k)).length + (C.filter p).length = C.length := by
  intro C
  induction C with
  | nil => rfl
  | cons a C ih =>
    rw [List.filter_cons, List.filter_cons]
    cases h : p a with
    | true => simp only [Bool.not_true, if_true]; rw [if_neg (by decide), List.length_cons, List.length_cons]; omega
    | false => simp only [Bool.not_false, if_true]; rw [if_neg (by decide), List.length_cons, List.length_cons]; omega
theorem bst_gd2 (T : zT) (C : List Int) : (C.filter (fun k => !(bstL T C).contains k)).length + (bstL T C).length = C.length := by
  have e : C.filter (fun k => !(bstL T C).contains k) = C.filter (fun k => !(dcd (∀ c, c ∈ C → ¬ spc T c k))) := by
    refine List.filter_congr (fun k hk => ?_)
    congr 1
    unfold bstL
    cases h : dcd (∀ c, c ∈ C → ¬ spc T c k) with
    | true => exact List.contains_iff_mem.mpr (List.mem_filter.mpr ⟨hk, h⟩)
    | false =>
      cases h2 : (C.filter (fun k => dcd (∀ c, c ∈ C → ¬ spc T c k))).contains k with
      | false => rfl
      | true =>
        have := (List.mem_filter.mp (List.contains_iff_mem.mp h2)).2
        rw [h] at this
        cases this
  rw [e]
  exact flt_two C
theorem rounds_G {ask : Int → zS → Int → zS × zQ} {path : List (Int × Int)} {lvl cds : Int} (hG2 : ∀ k, askG P.1 (ask k)) :
    ∀ (m : Nat) (C : List Int) (s : zS) (f : Int), (∀ k, k ∈ C → 0 ≤ k ∧ k < tG P.1) → C.length ≤ 24 → gdM P.1 (sM s) → cds = f + ((C.length : Nat) : Int) → gdM P.1 (sM (spRounds P ask path x lvl cds m C s f).1) ∧ ∀ t, (spRounds P ask path x lvl cds m C s f).2.2.1 = some t → gdT P.1 t := by
  intro m
  induction m with
  | zero =>
    intro C s f hC hCl hM hc
    exact ⟨hM, fun t ht => by cases ht⟩
  | succ m ih =>
    intro C s f hC hCl hM hc
    unfold spRounds
    by_cases q : C = []
    · rw [if_pos q]
      exact ⟨hM, fun t ht => by cases ht⟩
    · rw [if_neg q]
      have h2 := bst_gd2 P.1 C
      obtain ⟨a1, a2, a3⟩ := best_G (x := x) (path := path) (lvl := lvl) (cds := cds) (unt := ((C.length : Nat) - ((bstL P.1 C).length : Nat))) (c0 := f + (((bstL P.1 C).length : Nat) : Int)) hG2 (by omega) (by omega) (bstL P.1 C) s f none none (fun k hk => hC k (List.mem_filter.mp hk).1) hM (fun o e => by cases e) (fun _ => rfl) (fun _ => by rw [if_pos rfl]; omega)
      cases hb : (spBest P ask path x lvl cds ((C.length : Nat) - ((bstL P.1 C).length : Nat)) (bstL P.1 C) s f none none).2.1.2.1 with
      | some t1 => exact ⟨a1, a2⟩
      | none =>
        dsimp only
        by_cases q2 : (spBest P ask path x lvl cds ((C.length : Nat) - ((bstL P.1 C).length : Nat)) (bstL P.1 C) s f none none).2.1.1 = 0
        · rw [if_neg (fun w => w q2)]
          have e3 := a3 hb q2
          exact ih (C.filter (fun k => !(bstL P.1 C).contains k)) _ _ (fun k hk => hC k (List.mem_filter.mp hk).1) (by omega) a1 (by rw [e3]; omega)
        · rw [if_pos q2]
          exact ⟨a1, a2⟩
theorem seek_G {ask : Int → zS → Int → zS × zQ} {path : List (Int × Int)} (hT : tok P.1) (hG2 : ∀ k, askG P.1 (ask k)) :
    ∀ (m : Nat) (sc lvl : Int) (s : zS), gdM P.1 (sM s) → gdM P.1 (sM (spSeek P ask path x m sc lvl s).1) ∧ ∀ t, (spSeek P ask path x m sc lvl s).2.2.1 = some t → gdT P.1 t := by
  intro m
  induction m with
  | zero =>
    intro sc lvl s hM
    exact ⟨hM, fun t ht => by cases ht⟩
  | succ m ih =>
    intro sc lvl s hM
    have a := rounds_G (x := x) (path := path) (lvl := lvl) (cds := ((canL P s x sc).length : Nat)) hG2 24 (canL P s x sc) s 0 (fun k hk => by
      have := canL_mem.mp hk
      exact ⟨this.1, this.2.1⟩) (by
      have h1 : (canL P s x sc).length ≤ (zrg (tG P.1)).length := List.length_filter_le _ _
      rw [zrg_len] at h1
      have := hT.2.2.2.1
      omega) hM (by omega)
    unfold spSeek
    cases hc : (spRounds P ask path x lvl ((canL P s x sc).length : Nat) 24 (canL P s x sc) s 0).2.2.1 with
    | some t => exact a
    | none =>
      dsimp only
      split
      · exact a
      · split
        · exact a
        · exact ih (tA P.1 sc) (lvl + 1) _ a.1
theorem gdZ_kep (s : zS) {z : zN} {t : List zI} (h : gdT T t) (hz : .inl z ∈ t.map (kepI s)) : gdZ T z := by
  obtain ⟨i, hi, e⟩ := List.mem_map.mp hz
  rcases i with ⟨a, b, c, d, e2, f, w, r⟩ | m
  · have hg := h _ hi
    cases r with
    | none =>
      have := Sum.inl.inj (show (.inl (a, b, c, d, e2, f, w, some (rowE (hG s) (hN s) (hE s) w)) : zI) = .inl z from e)
      rw [← this]
      exact hg
    | some r =>
      have := Sum.inl.inj (show (.inl (a, b, c, d, e2, f, w, some r) : zI) = .inl z from e)
      rw [← this]
      exact hg
  · cases e
theorem gdM_at (h : gdM T M) {m : Nat} {z : zN} (hz : z ∈ memT M m) : gdZ T z := by
  unfold memT at hz
  cases q : M[m]? with
  | none => rw [q] at hz; cases hz
  | some e =>
    rw [q] at hz
    exact h e (List.mem_of_getElem? q) z hz
theorem gd_exp (h : gdT T t) (hM : gdM T M) : ∀ z, z ∈ expT M t → gdZ T z := by
  intro z hz
  unfold expT at hz
  obtain ⟨i, hi, hz2⟩ := List.mem_flatMap.mp hz
  rcases i with w | m
  · have : z = w := by simpa using hz2
    rw [this]
    exact h w hi
  · exact gdM_at hM hz2
theorem ask_G (hT : tok P.1) : ∀ (m : Nat) (path : List (Int × Int)), askG P.1 (askS P m path) := by
  intro m
  induction m with
  | zero =>
    intro path s y hM
    exact ⟨hM, fun t ht => by cases ht⟩
  | succ m ih =>
    intro path s y hM
    unfold askS
    split
    · exact ⟨hM, fun t ht => by cases ht⟩
    · split
      · exact ⟨hM, fun t ht => by cases ht⟩
      · split
        · exact ⟨hM, fun t ht => by cases ht⟩
        · split
          · refine ⟨hM, fun t ht => ?_⟩
            dsimp only at ht
            split at ht
            · cases ht
            · rw [← Option.some.inj ht]
              intro z hz
              rcases List.mem_cons.mp hz with w | w
              · cases w
              · cases w
          · have a := seek_G (x := y) (hT := hT) (path := path) (ask := fun k s' y' => askS P m (path ++ [(k, y)]) s' y') (fun k => ih (path ++ [(k, y)])) 6 P.2.2.2.1 0 (s.1, sM s, sA s + 1, sMt s, sC s, sTr s, max (sD s) ((path.length : Nat) + 1)) hM
            revert a
            generalize spSeek P (fun k s' y' => askS P m (path ++ [(k, y)]) s' y') path y 6 P.2.2.2.1 0 (s.1, sM s, sA s + 1, sMt s, sC s, sTr s, max (sD s) ((path.length : Nat) + 1)) = R
            intro a
            unfold spKeep
            split
            · split
              · refine ⟨fun e he z hz => ?_, fun t ht => a.2 t ht⟩
                rcases List.mem_append.mp he with w | w
                · exact a.1 e w z hz
                · rw [List.mem_singleton] at w
                  rw [w] at hz
                  cases hz
              · rename_i t1 ht1
                have hk : gdT P.1 (t1.map (kepI R.1)) := fun z hz => gdZ_kep R.1 (a.2 t1 ht1) hz
                refine ⟨fun e he z hz => ?_, fun t ht => ?_⟩
                · rcases List.mem_append.mp he with w | w
                  · exact a.1 e w z hz
                  · rw [List.mem_singleton] at w
                    rw [w] at hz
                    exact gd_exp hk a.1 z hz
                · rw [← Option.some.inj ht]
                  exact hk
            · exact a
theorem gd_kpt {f : Int → List Int} (h : gdT T t) : gdT T (t.map (kpt f)) := by
  intro z hz
  obtain ⟨i, hi, e⟩ := List.mem_map.mp hz
  rcases i with ⟨a, b, c, d, e2, u, w, r⟩ | m
  · have hg := h _ hi
    have := Sum.inl.inj (show (.inl (a, b, c, d, e2, u, w, some (f w)) : zI) = .inl z from e)
    rw [← this]
    exact hg
  · cases e
end ZGd
