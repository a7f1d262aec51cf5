/-! The search told without nodes: rounds, levels, goals; a goal is not remembered while it is asked. -/
section ZOs
variable {T : zT} {P : zP} {M0 M M' M2 : zM} {s s' B : zS} {x k : Int} {xs : List Int} {i : Nat}
theorem best_D {ask : Int → zS → Int → zS × zQ} {path : List (Int × Int)} {lvl cds unt : Int} (hT : tok P.1) (hR : ∀ k s y, gok s → 0 ≤ y → y < hN s → askR s (ask k s y) 0 0 0) (hI : ∀ k, askI (ask k)) (hD : ∀ k, akD P M0 (ask k)) (hB : gok B) (hrB : repI B) (x0 : 0 ≤ x) (x1 : x < hN B) (hx : ∀ y, y ∈ xs → 0 ≤ y ∧ y < hN B) (hi : xs[i]? = some x) :
    ∀ (ks : List Int) (s : zS) (f : Int) (one : Option (Int × List zI × List (Int × Int))), (∀ k, k ∈ ks → 0 ≤ k ∧ k < tG P.1 ∧ canB P B x k) → sA B ≤ sA s → sA s ≤ 200 → bI B s one → oI B s x one → mvl P M0 (sM s) → (spBest P ask path x lvl cds unt ks s f one none).2.1.1 = 0 → sC (spBest P ask path x lvl cds unt ks s f one none).1 = sC s → outD P M0 (sM s) (sM (spBest P ask path x lvl cds unt ks s f one none).1) (fun n => bsD P.1 (askD P M0 n) xs.length i (slS B xs) ks (one.map (fun o => slS ((hG s, hN s, o.2.2), s.2) xs))) (resD (spBest P ask path x lvl cds unt ks s f one none).1 (spBest P ask path x lvl cds unt ks s f one none).2.1.2.1 xs) := by
  intro ks
  induction ks with
  | nil =>
    intro s f one hks hA hA2 hbI hoI hm h0 hC
    cases one with
    | none => exact outD.rf hm
    | some o => exact outD.rf hm
  | cons k ks ih =>
    intro s f one hks hA hA2 hbI hoI hm h0 hC
    have hI0 := hbI
    obtain ⟨i1, i2, i3, i4, i5⟩ := hbI
    obtain ⟨k0, k1, kc⟩ := hks k List.mem_cons_self
    have hks2 : ∀ k, k ∈ ks → 0 ≤ k ∧ k < tG P.1 ∧ canB P B x k := fun k hk => hks k (List.mem_cons_of_mem _ hk)
    have hks3 : ∀ k, k ∈ ks → 0 ≤ k ∧ k < tG P.1 := fun k hk => ⟨(hks2 k hk).1, (hks2 k hk).2.1⟩
    have hgs : gok s := ⟨i1, by have := hB.2.1; omega, by rw [i4]; exact eok_mono hB.2.2.1 i2, hA2⟩
    have hrs : repI s := by
      obtain ⟨β, hr⟩ := hrB
      have := rep_ext i3 i2 hB.1 i1 hB.2.2.1 hr
      unfold repI
      rw [i4]
      exact ⟨β, this⟩
    have hsl : slS s xs = slS B xs := by
      have := slS_up (z := B.2) (z' := s.2) (E := hE B) hB.1 hB.2.1 i1 i3 i2 hB.2.2.1 hx
      rw [← i4] at this
      rw [show s = ((hG s, hN s, hE s), s.2) from rfl, this, i4]
      rfl
    have mnh : ∀ (oD v : Option zD), Mn (fun n => if v.isNone = true then bsD P.1 (askD P M0 n) xs.length i (slS B xs) ks oD else if oD.isNone = true then bsD P.1 (askD P M0 n) xs.length i (slS B xs) ks v else none) := fun oD v => by
      by_cases q : v.isNone = true
      · simp only [q, if_true]; exact bsD_m
      · by_cases q2 : oD.isNone = true
        · simp only [q, q2, if_true]; exact bsD_m
        · simp only [q, q2]; exact Mn_pure
    unfold spBest at h0 hC ⊢
    by_cases q : dcd (cutP s path x k) = true
    · rw [if_pos q] at h0 hC ⊢
      have hb := best_R (path := path) (lvl := lvl) (cds := cds) (unt := unt) hT hR hB x0 x1 ks (s.1, sM s, sA s, sMt s, sC s + 1, sTr s, sD s) (f + 1) one none hks3 hA hA2 hI0
      have h1 := hb.1.2.2.2.2.1
      have h2 : sC (s.1, sM s, sA s, sMt s, sC s + 1, sTr s, sD s) = sC s + 1 := rfl
      omega
    · rw [if_neg q] at h0 hC ⊢
      have htr := try_R (x := x) hT (hR k) hgs k0 k1 x0 (by omega)
      have hcx := can_ext hB i1 i3 i2 i4 x1 kc
      have hti := try_I (x := x) hT (hR k) (hI k) hgs hrs k0 k1 x0 (by omega) hcx
      have htd := try_D (x := x) (xs := xs) (i := i) hT (hR k) (hI k) (hD k) hgs hrs k0 k1 x0 (by omega) hcx (fun y hy => ⟨(hx y hy).1, by have := (hx y hy).2; omega⟩) hi hm
      obtain ⟨t1, t2, t3, t4⟩ := htr
      obtain ⟨M, hM⟩ := t1.2.2.2.2.2.2.2.2.2.2
      have t1c := t1.2.2.2.2.1
      by_cases q2 : (spTry P (ask k) k x s).2.1 = 0
      · rw [if_neg (fun w => w q2)] at h0 hC ⊢
        have bk : bI B (spBack s (spTry P (ask k) k x s).1) one := by
          refine ⟨i1, i2, i3, i4, ?_⟩
          cases one with
          | none => exact i5
          | some o =>
            have := t1.1
            show eok (hN s) o.2.2 ∧ hN s ≤ hN B + 60 + 120 * (sA (spTry P (ask k) k x s).1 - sA B) ∧ (zu (hG s) (hN s) : Int) ≤ zu (hG B) (hN B) + 26 + 52 * (sA (spTry P (ask k) k x s).1 - sA B)
            obtain ⟨j1, j2, j3⟩ := i5
            exact ⟨j1, by omega, by omega⟩
        have bo : oI B (spBack s (spTry P (ask k) k x s).1) x one := hoI.mem (M := M) rfl hM
        have eA : sA (spBack s (spTry P (ask k) k x s).1) = sA (spTry P (ask k) k x s).1 := rfl
        have h1 := t1.1
        have h2 := t1.2.1
        have htd := htd q2
        rw [hsl] at htd
        cases hc : (spTry P (ask k) k x s).2.2.1 with
        | none =>
          rw [hc] at h0 hC htd
          dsimp only at h0 hC ⊢
          have hb := best_R (path := path) (lvl := lvl) (cds := cds) (unt := unt) hT hR hB x0 x1 ks (spBack s (spTry P (ask k) k x s).1) (f + 1) one none hks3 (by rw [eA]; omega) (by rw [eA]; exact h2) bk
          have hb1 := hb.1.2.2.2.2.1
          have hb2 : sC (spBack s (spTry P (ask k) k x s).1) = sC (spTry P (ask k) k x s).1 := rfl
          have hq := htd (by omega)
          have hr := ih _ (f + 1) one hks2 (by rw [eA]; omega) (by rw [eA]; exact h2) bk bo hq.1 h0 (by omega)
          have eo : one.map (fun (o : Int × List zI × List (Int × Int)) => slS ((hG (spBack s (spTry P (ask k) k x s).1), hN (spBack s (spTry P (ask k) k x s).1), o.2.2), (spBack s (spTry P (ask k) k x s).1).2) xs) = one.map (fun (o : Int × List zI × List (Int × Int)) => slS ((hG s, hN s, o.2.2), s.2) xs) := by
            cases one with
            | none => rfl
            | some o => exact congrArg some (slS_1 rfl)
          rw [eo] at hr
          have hs := hq.bn (h := fun (v : Option zD) (n : Nat) => if v.isNone = true then bsD P.1 (askD P M0 n) xs.length i (slS B xs) ks (one.map (fun (o : Int × List zI × List (Int × Int)) => slS ((hG s, hN s, o.2.2), s.2) xs)) else if (one.map (fun (o : Int × List zI × List (Int × Int)) => slS ((hG s, hN s, o.2.2), s.2) xs)).isNone = true then bsD P.1 (askD P M0 n) xs.length i (slS B xs) ks v else none) hr tyD_m (mnh _)
          exact hs
        | some t1' =>
          rw [hc] at h0 hC htd
          cases one with
          | none =>
            dsimp only at h0 hC ⊢
            obtain ⟨g1, g2, g3, g4, g5, g6⟩ := t4 t1' hc
            obtain ⟨j1, j2⟩ := i5
            obtain ⟨u1, u2, u3⟩ := hti t1' hc
            have nb : bI B ((hG (spTry P (ask k) k x s).1, hN (spTry P (ask k) k x s).1, hE s), (spTry P (ask k) k x s).1.2) (some (k, t1', hE (spTry P (ask k) k x s).1)) := by
              refine ⟨g1, ?_, ?_, i4, g4, ?_, ?_⟩
              · show hN B ≤ hN (spTry P (ask k) k x s).1
                omega
              · show agr (hG B) (hG (spTry P (ask k) k x s).1) (hN B)
                rw [← j1, ← j2]; exact g3
              · show hN (spTry P (ask k) k x s).1 ≤ hN B + 60 + 120 * (sA (spTry P (ask k) k x s).1 - sA B)
                omega
              · show (zu (hG (spTry P (ask k) k x s).1) (hN (spTry P (ask k) k x s).1) : Int) ≤ zu (hG B) (hN B) + 26 + 52 * (sA (spTry P (ask k) k x s).1 - sA B)
                rw [← j1, ← j2]; omega
            have no : oI B ((hG (spTry P (ask k) k x s).1, hN (spTry P (ask k) k x s).1, hE s), (spTry P (ask k) k x s).1.2) x (some (k, t1', hE (spTry P (ask k) k x s).1)) := by
              refine ⟨u1, ?_, ?_⟩
              · show stepE (hG B) (hN B) (hE B) _ _ _ _
                rw [← j1, ← j2, ← i4]
                exact u2
              · rw [← j2]
                exact u3
            have hb := best_R (path := path) (lvl := lvl) (cds := cds) (unt := unt) hT hR hB x0 x1 ks ((hG (spTry P (ask k) k x s).1, hN (spTry P (ask k) k x s).1, hE s), (spTry P (ask k) k x s).1.2) f (some (k, t1', hE (spTry P (ask k) k x s).1)) none hks3 (by show sA B ≤ sA (spTry P (ask k) k x s).1; omega) h2 nb
            have hb1 := hb.1.2.2.2.2.1
            have hb2 : sC ((hG (spTry P (ask k) k x s).1, hN (spTry P (ask k) k x s).1, hE s), (spTry P (ask k) k x s).1.2) = sC (spTry P (ask k) k x s).1 := rfl
            have hq := htd (by omega)
            have hr := ih ((hG (spTry P (ask k) k x s).1, hN (spTry P (ask k) k x s).1, hE s), (spTry P (ask k) k x s).1.2) f (some (k, t1', hE (spTry P (ask k) k x s).1)) hks2 (by show sA B ≤ sA (spTry P (ask k) k x s).1; omega) h2 nb no hq.1 h0 (by omega)
            exact hq.bn (h := fun (v : Option zD) (n : Nat) => if v.isNone = true then bsD P.1 (askD P M0 n) xs.length i (slS B xs) ks none else if (none : Option zD).isNone = true then bsD P.1 (askD P M0 n) xs.length i (slS B xs) ks v else none) hr tyD_m (mnh none)
          | some o => exact absurd h0 (best_two _ _ _ _)
      · rw [if_pos q2] at h0
        exact absurd h0 q2
theorem rounds_D {ask : Int → zS → Int → zS × zQ} {path : List (Int × Int)} {lvl cds : Int} (hT : tok P.1) (hR : ∀ k s y, gok s → 0 ≤ y → y < hN s → askR s (ask k s y) 0 0 0) (hI : ∀ k, askI (ask k)) (hD : ∀ k, akD P M0 (ask k)) (hB : gok B) (hrB : repI B) (x0 : 0 ≤ x) (x1 : x < hN B) (hx : ∀ y, y ∈ xs → 0 ≤ y ∧ y < hN B) (hi : xs[i]? = some x) :
    ∀ (m : Nat) (C : List Int) (s : zS) (f : Int), (∀ k, k ∈ C → 0 ≤ k ∧ k < tG P.1 ∧ canB P B x k) → sA B ≤ sA s → sA s ≤ 200 → s.1 = B.1 → mvl P M0 (sM s) → (spRounds P ask path x lvl cds m C s f).2.1 = 0 → sC (spRounds P ask path x lvl cds m C s f).1 = sC s → outD P M0 (sM s) (sM (spRounds P ask path x lvl cds m C s f).1) (fun n => rdD P.1 (askD P M0 n) xs.length i (slS B xs) m C) (resD (spRounds P ask path x lvl cds m C s f).1 (spRounds P ask path x lvl cds m C s f).2.2.1 xs) := by
  intro m
  induction m with
  | zero =>
    intro C s f hC hA hA2 h1 hm h0 hCC
    exact outD.rf hm
  | succ m ih =>
    intro C s f hC hA hA2 h1 hm
    unfold spRounds
    by_cases q : C = []
    · rw [if_pos q]
      intro h0 hCC
      have : (fun n => rdD P.1 (askD P M0 n) xs.length i (slS B xs) (m + 1) C) = fun _ => some none := by
        funext n
        unfold rdD
        rw [if_pos q]
      rw [this]
      exact outD.rf hm
    · rw [if_neg q]
      have hbs : ∀ k, k ∈ bstL P.1 C → 0 ≤ k ∧ k < tG P.1 ∧ canB P B x k := fun k hk => hC k (List.mem_filter.mp hk).1
      have hbI : bI B s none := by
        have e1 : hG s = hG B := by unfold hG; rw [h1]
        have e2 : hN s = hN B := by unfold hN; rw [h1]
        have e3 : hE s = hE B := by unfold hE; rw [h1]
        refine ⟨by rw [e1, e2]; exact hB.1, by omega, by rw [e1]; exact agr.rf _ _, e3, e1, e2⟩
      obtain ⟨a1, a2, a3, a4, a5, a6⟩ := best_R (path := path) (lvl := lvl) (cds := cds) (unt := ((C.length : Nat) - ((bstL P.1 C).length : Nat))) hT hR hB x0 x1 (bstL P.1 C) s f none none (fun k hk => ⟨(hbs k hk).1, (hbs k hk).2.1⟩) hA hA2 hbI
      have b1 := best_D (path := path) (lvl := lvl) (cds := cds) (unt := ((C.length : Nat) - ((bstL P.1 C).length : Nat))) hT hR hI hD hB hrB x0 x1 hx hi (bstL P.1 C) s f none hbs hA hA2 hbI trivial hm
      have mnh : ∀ (v : Option zD), Mn (fun n => if v.isNone = true then rdD P.1 (askD P M0 n) xs.length i (slS B xs) m (C.filter (fun k => !(bstL P.1 C).contains k)) else some v) := fun v => by
        by_cases q : v.isNone = true
        · simp only [q, if_true]; exact rdD_m
        · simp only [q]; exact Mn_pure
      have eF : (fun n => rdD P.1 (askD P M0 n) xs.length i (slS B xs) (m + 1) C) = fun n => (bsD P.1 (askD P M0 n) xs.length i (slS B xs) (bstL P.1 C) none).bind (fun v => if v.isNone = true then rdD P.1 (askD P M0 n) xs.length i (slS B xs) m (C.filter (fun k => !(bstL P.1 C).contains k)) else some v) := by
        funext n
        conv => lhs; unfold rdD
        rw [if_neg q]
      rw [eF]
      cases hc : (spBest P ask path x lvl cds ((C.length : Nat) - ((bstL P.1 C).length : Nat)) (bstL P.1 C) s f none none).2.1.2.1 with
      | some t1 =>
        intro h0 hCC
        have b2 := b1 h0 hCC
        rw [hc] at b2
        dsimp only
        rw [hc]
        exact b2.bn (h := fun (v : Option zD) (n : Nat) => if v.isNone = true then rdD P.1 (askD P M0 n) xs.length i (slS B xs) m (C.filter (fun k => !(bstL P.1 C).contains k)) else some v) (outD.rf b2.1) bsD_m mnh
      | none =>
        dsimp only
        by_cases q2 : (spBest P ask path x lvl cds ((C.length : Nat) - ((bstL P.1 C).length : Nat)) (bstL P.1 C) s f none none).2.1.1 = 0
        · rw [if_neg (fun w => w q2)]
          intro h0 hCC
          have hA3 := a1.1
          have hA4 := a1.2.1
          have hC5 := a1.2.2.2.2.1
          have hrr := rounds_R (path := path) (lvl := lvl) (cds := cds) hT hR hB x0 x1 m (C.filter (fun k => !(bstL P.1 C).contains k)) (spBest P ask path x lvl cds ((C.length : Nat) - ((bstL P.1 C).length : Nat)) (bstL P.1 C) s f none none).1 (spBest P ask path x lvl cds ((C.length : Nat) - ((bstL P.1 C).length : Nat)) (bstL P.1 C) s f none none).2.2 (fun k hk => ⟨(hC k (List.mem_filter.mp hk).1).1, (hC k (List.mem_filter.mp hk).1).2.1⟩) (by omega) hA4 (a6 q2 hc)
          have hC6 := hrr.1.2.2.2.2.1
          have b2 := b1 q2 (by omega)
          rw [hc] at b2
          have b3 := ih (C.filter (fun k => !(bstL P.1 C).contains k)) _ _ (fun k hk => hC k (List.mem_filter.mp hk).1) (by omega) hA4 (a6 q2 hc) b2.1 h0 (by omega)
          exact b2.bn (h := fun (v : Option zD) (n : Nat) => if v.isNone = true then rdD P.1 (askD P M0 n) xs.length i (slS B xs) m (C.filter (fun k => !(bstL P.1 C).contains k)) else some v) b3 bsD_m mnh
        · rw [if_pos q2]
          intro h0
          exact absurd h0 q2
theorem canD_eq (h1 : s.1 = B.1) (hi : xs[i]? = some x) {sc : Int} : canD P i (slS B xs) sc = canL P s x sc := by
  unfold canD canL
  refine List.filter_congr (fun k _ => ?_)
  refine congrArg _ ?_
  unfold canP
  refine propext ⟨fun w => ⟨w.1, w.2.1, w.2.2.1, w.2.2.2.1, w.2.2.2.2.1, ?_⟩, fun w => ⟨w.1, w.2.1, w.2.2.1, w.2.2.2.1, w.2.2.2.2.1, ?_⟩⟩
  · obtain ⟨τ, ⟨ρ, hρ, e⟩, θ, h2, h3⟩ := w.2.2.2.2.2
    rw [e, get_map hi] at h3
    have e1 : hG s = hG B := by unfold hG; rw [h1]
    have e2 : hN s = hN B := by unfold hN; rw [h1]
    have e3 : hE s = hE B := by unfold hE; rw [h1]
    rw [e1, e2, e3]
    exact ⟨ρ, hρ, θ, h2, h3⟩
  · obtain ⟨ρ, hρ, θ, h2, h3⟩ := w.2.2.2.2.2
    have e1 : hG s = hG B := by unfold hG; rw [h1]
    have e2 : hN s = hN B := by unfold hN; rw [h1]
    have e3 : hE s = hE B := by unfold hE; rw [h1]
    rw [e1, e2, e3] at hρ
    exact ⟨xs.map ρ, ⟨ρ, hρ, rfl⟩, θ, h2, by rw [get_map hi]; exact h3⟩
theorem seek_D {ask : Int → zS → Int → zS × zQ} {path : List (Int × Int)} (hT : tok P.1) (hR : ∀ k s y, gok s → 0 ≤ y → y < hN s → askR s (ask k s y) 0 0 0) (hI : ∀ k, askI (ask k)) (hD : ∀ k, akD P M0 (ask k)) (hB : gok B) (hrB : repI B) (x0 : 0 ≤ x) (x1 : x < hN B) (hx : ∀ y, y ∈ xs → 0 ≤ y ∧ y < hN B) (hi : xs[i]? = some x) :
    ∀ (m : Nat) (sc lvl : Int) (s : zS), sA B ≤ sA s → sA s ≤ 200 → s.1 = B.1 → mvl P M0 (sM s) → (spSeek P ask path x m sc lvl s).2.1 = 0 → sC (spSeek P ask path x m sc lvl s).1 = sC s → outD P M0 (sM s) (sM (spSeek P ask path x m sc lvl s).1) (fun n => skD P (askD P M0 n) xs.length i (slS B xs) m sc) (resD (spSeek P ask path x m sc lvl s).1 (spSeek P ask path x m sc lvl s).2.2.1 xs) := by
  intro m
  induction m with
  | zero =>
    intro sc lvl s hA hA2 h1 hm h0 hCC
    exact outD.rf hm
  | succ m ih =>
    intro sc lvl s hA hA2 h1 hm
    have e1 : hG s = hG B := by unfold hG; rw [h1]
    have e2 : hN s = hN B := by unfold hN; rw [h1]
    have e3 : hE s = hE B := by unfold hE; rw [h1]
    have hC : ∀ k, k ∈ canL P s x sc → 0 ≤ k ∧ k < tG P.1 ∧ canB P B x k := fun k hk => by
      have := canL_mem.mp hk
      refine ⟨this.1, this.2.1, ?_⟩
      unfold canB
      rw [← e1, ← e2, ← e3]
      exact this.2.2.2.2.2
    obtain ⟨a1, a2, a3, a4, a5⟩ := rounds_R (path := path) (lvl := lvl) (cds := ((canL P s x sc).length : Nat)) hT hR hB x0 x1 24 (canL P s x sc) s 0 (fun k hk => ⟨(hC k hk).1, (hC k hk).2.1⟩) hA hA2 h1
    have b1 := rounds_D (path := path) (lvl := lvl) (cds := ((canL P s x sc).length : Nat)) hT hR hI hD hB hrB x0 x1 hx hi 24 (canL P s x sc) s 0 hC hA hA2 h1 hm
    rw [← canD_eq (B := B) h1 hi] at b1
    rw [canD_eq (B := B) h1 hi] at b1
    have mnh : ∀ (v : Option zD), Mn (fun n => if v.isNone = true then (if tA P.1 sc = -1 then some none else skD P (askD P M0 n) xs.length i (slS B xs) m (tA P.1 sc)) else some v) := fun v => by
      by_cases q : v.isNone = true
      · simp only [q, if_true]
        by_cases q2 : tA P.1 sc = -1
        · simp only [q2, if_true]; exact Mn_pure
        · simp only [q2, if_false]; exact skD_m
      · simp only [q]; exact Mn_pure
    have eF : (fun n => skD P (askD P M0 n) xs.length i (slS B xs) (m + 1) sc) = fun n => (rdD P.1 (askD P M0 n) xs.length i (slS B xs) 24 (canL P s x sc)).bind (fun v => if v.isNone = true then (if tA P.1 sc = -1 then some none else skD P (askD P M0 n) xs.length i (slS B xs) m (tA P.1 sc)) else some v) := by
      funext n
      conv => lhs; unfold skD
      rw [canD_eq (s := s) h1 hi]
    rw [eF]
    unfold spSeek
    cases hc : (spRounds P ask path x lvl ((canL P s x sc).length : Nat) 24 (canL P s x sc) s 0).2.2.1 with
    | some t =>
      dsimp only
      rw [hc]
      intro h0 hCC
      have b2 := b1 h0 hCC
      rw [hc] at b2
      exact b2.bn (h := fun (v : Option zD) (n : Nat) => if v.isNone = true then (if tA P.1 sc = -1 then some none else skD P (askD P M0 n) xs.length i (slS B xs) m (tA P.1 sc)) else some v) (outD.rf b2.1) rdD_m mnh
    | none =>
      dsimp only
      by_cases q2 : (spRounds P ask path x lvl ((canL P s x sc).length : Nat) 24 (canL P s x sc) s 0).2.1 = 0
      · rw [if_neg (fun w => w q2)]
        by_cases q3 : tA P.1 sc = -1
        · rw [if_pos q3]
          rw [hc]
          intro h0 hCC
          have b2 := b1 h0 hCC
          rw [hc] at b2
          refine b2.bn (h := fun (v : Option zD) (n : Nat) => if v.isNone = true then (if tA P.1 sc = -1 then some none else skD P (askD P M0 n) xs.length i (slS B xs) m (tA P.1 sc)) else some v) ?_ rdD_m mnh
          have e : (fun (n : Nat) => if (resD (spRounds P ask path x lvl ((canL P s x sc).length : Nat) 24 (canL P s x sc) s 0).1 none xs).isNone = true then (if tA P.1 sc = -1 then some none else skD P (askD P M0 n) xs.length i (slS B xs) m (tA P.1 sc)) else some (resD (spRounds P ask path x lvl ((canL P s x sc).length : Nat) 24 (canL P s x sc) s 0).1 none xs)) = fun _ => some none := by
            funext n
            rw [if_pos (by rfl), if_pos q3]
          rw [e]
          exact outD.rf b2.1
        · rw [if_neg q3]
          intro h0 hCC
          have hA3 := a1.1
          have hA4 := a1.2.1
          have hC5 := a1.2.2.2.2.1
          have hrr := seek_R (path := path) hT hR hB x0 x1 m (tA P.1 sc) (lvl + 1) (spRounds P ask path x lvl ((canL P s x sc).length : Nat) 24 (canL P s x sc) s 0).1 (by omega) hA4 (a5 q2 hc)
          have hC6 := hrr.1.2.2.2.2.1
          have b2 := b1 q2 (by omega)
          rw [hc] at b2
          have b3 := ih (tA P.1 sc) (lvl + 1) _ (by omega) hA4 (a5 q2 hc) b2.1 h0 (by omega)
          refine b2.bn (h := fun (v : Option zD) (n : Nat) => if v.isNone = true then (if tA P.1 sc = -1 then some none else skD P (askD P M0 n) xs.length i (slS B xs) m (tA P.1 sc)) else some v) ?_ rdD_m mnh
          have e : (fun (n : Nat) => if (resD (spRounds P ask path x lvl ((canL P s x sc).length : Nat) 24 (canL P s x sc) s 0).1 none xs).isNone = true then (if tA P.1 sc = -1 then some none else skD P (askD P M0 n) xs.length i (slS B xs) m (tA P.1 sc)) else some (resD (spRounds P ask path x lvl ((canL P s x sc).length : Nat) 24 (canL P s x sc) s 0).1 none xs)) = fun n => skD P (askD P M0 n) xs.length i (slS B xs) m (tA P.1 sc) := by
            funext n
            rw [if_pos (by rfl), if_neg q3]
          rw [e]
          exact b3
      · rw [if_pos q2]
        intro h0
        exact absurd h0 q2
end ZOs
