/-! How far the search goes: levels, goals. -/
section ZBd2
variable {P : zP} {s s1 s2 s3 : zS} {a b c d e : Int}
theorem filt_two (p : Int → Bool) : ∀ l : List Int, (l.filter p).length + (l.filter (fun k => !(p k))).length = l.length := by
  intro l
  induction l with
  | nil => rfl
  | cons a l ih =>
    by_cases q : p a = true
    · rw [List.filter_cons_of_pos q, List.filter_cons_of_neg (by rw [q]; decide), List.length_cons, List.length_cons]
      omega
    · rw [List.filter_cons_of_neg q, List.filter_cons_of_pos (by simpa using q), List.length_cons, List.length_cons]
      omega
theorem bst_two (T : zT) (C : List Int) : (bstL T C).length + (C.filter (fun k => !(bstL T C).contains k)).length = C.length := by
  have : C.filter (fun k => !(bstL T C).contains k) = C.filter (fun k => !(dcd (∀ c, c ∈ C → ¬ spc T c k))) := by
    refine List.filter_congr (fun k hk => ?_)
    congr 1
    refine Bool.eq_iff_iff.mpr ?_
    rw [List.contains_iff_mem]
    unfold bstL
    rw [List.mem_filter]
    exact ⟨fun w => w.2, fun w => ⟨hk, w⟩⟩
  rw [this]
  exact filt_two _ C
theorem rounds_R {ask : Int → zS → Int → zS × zQ} {path : List (Int × Int)} {x lvl cds : Int} {B : zS} (hT : tok P.1) (hask : ∀ k s y, gok s → 0 ≤ y → y < hN s → askR s (ask k s y) 0 0 0) (hB : gok B) (x0 : 0 ≤ x) (x1 : x < hN B) :
    ∀ (m : Nat) (C : List Int) (s : zS) (f : Int), (∀ k, k ∈ C → 0 ≤ k ∧ k < tG P.1) → sA B ≤ sA s → sA s ≤ 200 → s.1 = B.1 → gon s (spRounds P ask path x lvl cds m C s f).1 (C.length : Nat) ∧ (0 ≤ (spRounds P ask path x lvl cds m C s f).2.1 ∧ (spRounds P ask path x lvl cds m C s f).2.1 ≤ 6) ∧ (¬ (spRounds P ask path x lvl cds m C s f).2.1 = 0 → (spRounds P ask path x lvl cds m C s f).2.2.1 = none) ∧ (∀ t, (spRounds P ask path x lvl cds m C s f).2.2.1 = some t → gro B (spRounds P ask path x lvl cds m C s f).1 60 26) ∧ ((spRounds P ask path x lvl cds m C s f).2.1 = 0 → (spRounds P ask path x lvl cds m C s f).2.2.1 = none → (spRounds P ask path x lvl cds m C s f).1.1 = B.1) := by
  intro m
  induction m with
  | zero =>
    intro C s f hC hA hA2 h1
    exact ⟨gon.rf hA2 (by omega), ⟨by show (0 : Int) ≤ 0; decide, by show (0 : Int) ≤ 6; decide⟩, fun w => absurd rfl w, fun t ht => (by cases ht), fun _ _ => h1⟩
  | succ m ih =>
    intro C s f hC hA hA2 h1
    unfold spRounds
    by_cases q : C = []
    · rw [if_pos q]
      exact ⟨gon.rf hA2 (by omega), ⟨by show (0 : Int) ≤ 0; decide, by show (0 : Int) ≤ 6; decide⟩, fun w => absurd rfl w, fun t ht => (by cases ht), fun _ _ => h1⟩
    · rw [if_neg q]
      have hbs : ∀ k, k ∈ bstL P.1 C → 0 ≤ k ∧ k < tG P.1 := fun k hk => hC k (List.mem_filter.mp hk).1
      have hI : bI B s none := by
        have e1 : hG s = hG B := by unfold hG; rw [h1]
        have e2 : hN s = hN B := by unfold hN; rw [h1]
        have e3 : hE s = hE B := by unfold hE; rw [h1]
        refine ⟨by rw [e1, e2]; exact hB.1, by omega, by rw [e1]; exact agr.rf _ _, e3, e1, e2⟩
      have htwo := bst_two P.1 C
      obtain ⟨a1, a2, a3, a4, a5, a6⟩ := best_R (path := path) (lvl := lvl) (cds := cds) (unt := ((C.length : Nat) - ((bstL P.1 C).length : Nat))) hT hask hB x0 x1 (bstL P.1 C) s f none none hbs hA hA2 hI
      cases hc : (spBest P ask path x lvl cds ((C.length : Nat) - ((bstL P.1 C).length : Nat)) (bstL P.1 C) s f none none).2.1.2.1 with
      | some t => exact ⟨a1.mo (by omega), a2, a3, a4, fun _ w => absurd w (by rw [hc]; simp)⟩
      | none =>
        dsimp only
        by_cases q2 : (spBest P ask path x lvl cds ((C.length : Nat) - ((bstL P.1 C).length : Nat)) (bstL P.1 C) s f none none).2.1.1 = 0
        · rw [if_neg (fun w => w q2)]
          have hA3 := a1.1
          have hA4 := a1.2.1
          obtain ⟨b1, b2, b3, b4, b5⟩ := ih (C.filter (fun k => !(bstL P.1 C).contains k)) (spBest P ask path x lvl cds ((C.length : Nat) - ((bstL P.1 C).length : Nat)) (bstL P.1 C) s f none none).1 (spBest P ask path x lvl cds ((C.length : Nat) - ((bstL P.1 C).length : Nat)) (bstL P.1 C) s f none none).2.2 (fun k hk => hC k (List.mem_filter.mp hk).1) (by omega) hA4 (a6 q2 hc)
          exact ⟨(a1.tr b1).mo (by omega), b2, b3, b4, b5⟩
        · rw [if_pos q2]
          exact ⟨a1.mo (by omega), a2, a3, a4, fun w => absurd w q2⟩
theorem canL_len (hT : tok P.1) {x sc : Int} : (canL P s x sc).length ≤ 24 := by
  unfold canL
  refine Nat.le_trans (List.length_filter_le _ _) ?_
  rw [zrg_len]
  have := hT.2.2.2.1
  omega
theorem canL_mem {x sc k : Int} : k ∈ canL P s x sc ↔ canP P.1 P.2.1 P.2.2.1 (hG s) (hN s) (hE s) x sc k := by
  unfold canL
  rw [List.mem_filter, dcd_iff, mem_zrg_iff]
  exact ⟨fun w => w.2, fun w => ⟨⟨w.1, w.2.1⟩, w⟩⟩
theorem seek_R {ask : Int → zS → Int → zS × zQ} {path : List (Int × Int)} {x : Int} {B : zS} (hT : tok P.1) (hask : ∀ k s y, gok s → 0 ≤ y → y < hN s → askR s (ask k s y) 0 0 0) (hB : gok B) (x0 : 0 ≤ x) (x1 : x < hN B) :
    ∀ (m : Nat) (sc lvl : Int) (s : zS), sA B ≤ sA s → sA s ≤ 200 → s.1 = B.1 → gon s (spSeek P ask path x m sc lvl s).1 (24 * (m : Nat)) ∧ (0 ≤ (spSeek P ask path x m sc lvl s).2.1 ∧ (spSeek P ask path x m sc lvl s).2.1 ≤ 6) ∧ (¬ (spSeek P ask path x m sc lvl s).2.1 = 0 → (spSeek P ask path x m sc lvl s).2.2.1 = none) ∧ (∀ t, (spSeek P ask path x m sc lvl s).2.2.1 = some t → gro B (spSeek P ask path x m sc lvl s).1 60 26) ∧ ((spSeek P ask path x m sc lvl s).2.1 = 0 → (spSeek P ask path x m sc lvl s).2.2.1 = none → (spSeek P ask path x m sc lvl s).1.1 = B.1) := by
  intro m
  induction m with
  | zero =>
    intro sc lvl s hA hA2 h1
    exact ⟨gon.rf hA2 (by omega), ⟨by show (0 : Int) ≤ 0; decide, by show (0 : Int) ≤ 6; decide⟩, fun w => absurd rfl w, fun t ht => (by cases ht), fun _ _ => h1⟩
  | succ m ih =>
    intro sc lvl s hA hA2 h1
    have hcl := canL_len (P := P) (s := s) (x := x) (sc := sc) hT
    obtain ⟨a1, a2, a3, a4, a5⟩ := rounds_R (path := path) (lvl := lvl) (cds := ((canL P s x sc).length : Nat)) hT hask hB x0 x1 24 (canL P s x sc) s 0 (fun k hk => by
      have := canL_mem.mp hk
      exact ⟨this.1, this.2.1⟩) hA hA2 h1
    unfold spSeek
    cases hc : (spRounds P ask path x lvl ((canL P s x sc).length : Nat) 24 (canL P s x sc) s 0).2.2.1 with
    | some t => exact ⟨a1.mo (by omega), a2, a3, a4, a5⟩
    | none =>
      dsimp only
      by_cases q2 : (spRounds P ask path x lvl ((canL P s x sc).length : Nat) 24 (canL P s x sc) s 0).2.1 = 0
      · rw [if_neg (fun w => w q2)]
        by_cases q3 : tA P.1 sc = -1
        · rw [if_pos q3]
          exact ⟨a1.mo (by omega), a2, a3, a4, a5⟩
        · rw [if_neg q3]
          have hA3 := a1.1
          have hA4 := a1.2.1
          obtain ⟨b1, b2, b3, b4, b5⟩ := ih (tA P.1 sc) (lvl + 1) _ (by omega) hA4 (a5 q2 hc)
          exact ⟨(a1.tr b1).mo (by omega), b2, b3, b4, b5⟩
      · rw [if_pos q2]
        exact ⟨a1.mo (by omega), a2, a3, a4, a5⟩
theorem keep_R {r : List Int} {s0 : zS} {R : zS × zQ} (h : askR s R a b d) : askR s (spKeep P r s0 R) a b d := by
  unfold spKeep
  by_cases q : (P.2.2.2.2 && clsd r) = true ∧ R.2.1 = 0 ∧ sC R.1 = sC s0 ∧ (sM R.1).length < 40
  · rw [if_pos q]
    obtain ⟨h1, h2, h3, h4⟩ := h
    have app : ∀ e, gon s (R.1.1, sM R.1 ++ [e], R.1.2.2) d := fun e => by
      obtain ⟨c1, c2, c3, c4, c5, c6, c7, c8, c9, c10, M, c11⟩ := h1
      refine ⟨c1, c2, c3, c4, c5, c6, c7, c8, c9, fun _ => ?_, M ++ [e], ?_⟩
      · show (sM R.1 ++ [e]).length ≤ 40
        rw [List.length_append]
        have := q.2.2.2
        show (sM R.1).length + 1 ≤ 40
        omega
      · show sM R.1 ++ [e] = _
        rw [c11, List.append_assoc]
    cases hc : R.2.2.1 with
    | none => exact ⟨app _, h2, h3, fun t ht => by rw [hc] at ht; cases ht⟩
    | some t => exact ⟨app _, h2, fun w => absurd q.2.1 w, fun t' _ => h4 t hc⟩
  · rw [if_neg q]; exact h
theorem ask_R (hT : tok P.1) : ∀ (m : Nat) (path : List (Int × Int)) (s : zS) (x : Int), gok s → 0 ≤ x → x < hN s → askR s (askS P m path s x) 0 0 0 := by
  intro m
  induction m with
  | zero =>
    intro path s x h x0 x1
    exact ⟨gon.rf h.2.2.2 (Int.le_refl _), ⟨by show (0 : Int) ≤ 4; decide, by show (4 : Int) ≤ 6; decide⟩, fun _ => rfl, fun t ht => (by cases ht)⟩
  | succ m ih =>
    intro path s x h x0 x1
    unfold askS
    by_cases q1 : sA s = 200
    · rw [if_pos q1]
      exact ⟨gon.rf h.2.2.2 (Int.le_refl _), ⟨by show (0 : Int) ≤ 3; decide, by show (3 : Int) ≤ 6; decide⟩, fun _ => rfl, fun t ht => (by cases ht)⟩
    · rw [if_neg q1]
      by_cases q2 : 20 ≤ path.length
      · rw [if_pos q2]
        exact ⟨gon.rf h.2.2.2 (Int.le_refl _), ⟨by show (0 : Int) ≤ 4; decide, by show (4 : Int) ≤ 6; decide⟩, fun _ => rfl, fun t ht => (by cases ht)⟩
      · rw [if_neg q2]
        by_cases q3 : 100 < (rowE (hG s) (hN s) (hE s) x).length
        · rw [if_pos q3]
          exact ⟨gon.rf h.2.2.2 (Int.le_refl _), ⟨by show (0 : Int) ≤ 5; decide, by show (5 : Int) ≤ 6; decide⟩, fun _ => rfl, fun t ht => (by cases ht)⟩
        · rw [if_neg q3]
          have hA := h.2.2.2
          have hmx : sD s ≤ max (sD s) ((path.length : Nat) + 1) ∧ (sD s ≤ 20 → max (sD s) ((path.length : Nat) + 1) ≤ 20) := ⟨by omega, by omega⟩
          have h2 := h.2.1
          cases hc : (if (P.2.2.2.2 && clsd (rowE (hG s) (hN s) (hE s) x)) = true then fndM (sM s) P.2.2.2.1 (rowE (hG s) (hN s) (hE s) x) else none) with
          | some j =>
            refine ⟨⟨by show sA s ≤ sA s + 1; omega, by show sA s + 1 ≤ 200; omega, by show sMt s ≤ sMt s + 1; omega, by show sMt s + 1 - (sA s + 1) ≤ _; omega, Int.le_refl _, Int.le_refl _, by show sTr s + sC s - 144 * (sA s + 1) ≤ sTr s + sC s - 144 * sA s + 0; omega, hmx.1, hmx.2, fun h => h, [], by show sM s = sM s ++ []; simp⟩, ⟨by show (0 : Int) ≤ 0; decide, by show (0 : Int) ≤ 6; decide⟩, fun w => absurd rfl w, fun t _ => ⟨h.1, Int.le_refl _, agr.rf _ _, h.2.2.1, by show hN s ≤ hN s + 0 + 120 * (sA s + 1 - sA s); omega, by show (zu (hG s) (hN s) : Int) ≤ zu (hG s) (hN s) + 0 + 52 * (sA s + 1 - sA s); omega⟩⟩
          | none =>
            dsimp only
            refine keep_R ?_
            have hst : gon s (s.1, sM s, sA s + 1, sMt s, sC s, sTr s, max (sD s) ((path.length : Nat) + 1)) (-144) := ⟨by show sA s ≤ sA s + 1; omega, by show sA s + 1 ≤ 200; omega, Int.le_refl _, by show sMt s - (sA s + 1) ≤ _; omega, Int.le_refl _, Int.le_refl _, by show sTr s + sC s - 144 * (sA s + 1) ≤ sTr s + sC s - 144 * sA s + (-144); omega, hmx.1, hmx.2, fun h => h, [], by show sM s = sM s ++ []; simp⟩
            have hB : gok (s.1, sM s, sA s + 1, sMt s, sC s, sTr s, max (sD s) ((path.length : Nat) + 1)) := ⟨h.1, h.2.1, h.2.2.1, by show sA s + 1 ≤ 200; omega⟩
            obtain ⟨a1, a2, a3, a4, a5⟩ := seek_R (P := P) (ask := fun k s' y => askS P m (path ++ [(k, x)]) s' y) (path := path) (x := x) (B := (s.1, sM s, sA s + 1, sMt s, sC s, sTr s, max (sD s) ((path.length : Nat) + 1))) hT (fun k s y => ih _ s y) hB x0 x1 6 P.2.2.2.1 0 (s.1, sM s, sA s + 1, sMt s, sC s, sTr s, max (sD s) ((path.length : Nat) + 1)) (Int.le_refl _) (by show sA s + 1 ≤ 200; omega) rfl
            refine ⟨(hst.tr a1).mo (by omega), a2, a3, fun t ht => ?_⟩
            obtain ⟨c1, c2, c3, c4, c5, c6⟩ := a4 t ht
            refine ⟨c1, c2, c3, c4, ?_, ?_⟩
            · have e1 : hN (s.1, sM s, sA s + 1, sMt s, sC s, sTr s, max (sD s) (((path.length : Nat) : Int) + 1)) = hN s := rfl
              have e2 : sA (s.1, sM s, sA s + 1, sMt s, sC s, sTr s, max (sD s) (((path.length : Nat) : Int) + 1)) = sA s + 1 := rfl
              rw [e1, e2] at c5
              omega
            · have e1 : hN (s.1, sM s, sA s + 1, sMt s, sC s, sTr s, max (sD s) (((path.length : Nat) : Int) + 1)) = hN s := rfl
              have e2 : sA (s.1, sM s, sA s + 1, sMt s, sC s, sTr s, max (sD s) (((path.length : Nat) : Int) + 1)) = sA s + 1 := rfl
              have e3 : hG (s.1, sM s, sA s + 1, sMt s, sC s, sTr s, max (sD s) (((path.length : Nat) : Int) + 1)) = hG s := rfl
              rw [e1, e2, e3] at c6
              omega
end ZBd2
