/-! A goal is not remembered while it is asked, if nothing is cut. -/
section ZOt
variable {P : zP} {M0 M : zM} {S : zD} {s : zS} {x sc : Int} {r : List Int} {xs : List Int} {i j L : Nat} {v : Option zD}
theorem fnd_none : fndM M sc r = none ↔ ∀ e, e ∈ M → ¬ (e.1 = sc ∧ e.2.1 = r) := by
  unfold fndM
  rw [List.findIdx?_eq_none_iff]
  exact ⟨fun h e he => of_decide_eq_false (h e he), fun h e he => decide_eq_false (h e he)⟩
theorem fnd_some (h : fndM M sc r = some j) : ∃ e, e ∈ M ∧ (e.1 = sc ∧ e.2.1 = r) ∧ memT M j = e.2.2 ∧ ∀ A, fndM (M ++ A) sc r = some j ∧ memT (M ++ A) j = e.2.2 := by
  have h0 := h
  unfold fndM at h
  obtain ⟨hj, h1, -⟩ := List.findIdx?_eq_some_iff_getElem.mp h
  have e1 : M[j]? = some M[j] := List.getElem?_eq_getElem hj
  refine ⟨M[j], List.getElem_mem hj, of_decide_eq_true h1, ?_, fun A => ⟨?_, ?_⟩⟩
  · unfold memT
    rw [e1]
    rfl
  · show List.findIdx? _ (M ++ A) = some j
    rw [List.findIdx?_append, h]
    rfl
  · unfold memT
    rw [List.getElem?_append_left hj, e1]
    rfl
theorem rounds_shape {ask : Int → zS → Int → zS × zQ} {path : List (Int × Int)} {lvl cds : Int} : ∀ (m : Nat) (C : List Int) (s : zS) (f : Int) (t : List zI), (∀ k, k ∈ C → 0 ≤ k ∧ k < tG P.1) → (spRounds P ask path x lvl cds m C s f).2.2.1 = some t → (spRounds P ask path x lvl cds m C s f).2.1 = 0 → ∃ z l, t = .inl z :: l := by
  intro m
  induction m with
  | zero => intro C s f t hC h; cases h
  | succ m ih =>
    intro C s f t hC
    unfold spRounds
    by_cases q : C = []
    · rw [if_pos q]
      intro h; cases h
    · rw [if_neg q]
      have hbs : ∀ k, k ∈ bstL P.1 C → 0 ≤ k ∧ k < tG P.1 := fun k hk => hC k (List.mem_filter.mp hk).1
      cases hc : (spBest P ask path x lvl cds ((C.length : Nat) - ((bstL P.1 C).length : Nat)) (bstL P.1 C) s f none none).2.1.2.1 with
      | some t1 =>
        intro h h0
        obtain ⟨k, sub, -, e⟩ := best_shape (bstL P.1 C) s f none none t h h0 hbs (fun o ho => by cases ho)
        exact ⟨_, _, e⟩
      | none =>
        dsimp only
        by_cases q2 : (spBest P ask path x lvl cds ((C.length : Nat) - ((bstL P.1 C).length : Nat)) (bstL P.1 C) s f none none).2.1.1 = 0
        · rw [if_neg (fun w => w q2)]
          exact ih _ _ _ t (fun k hk => hC k (List.mem_filter.mp hk).1)
        · rw [if_pos q2]
          intro h h0
          exact absurd h0 q2
theorem seek_shape {ask : Int → zS → Int → zS × zQ} {path : List (Int × Int)} : ∀ (m : Nat) (sc lvl : Int) (s : zS) (t : List zI), (spSeek P ask path x m sc lvl s).2.2.1 = some t → (spSeek P ask path x m sc lvl s).2.1 = 0 → ∃ z l, t = .inl z :: l := by
  intro m
  induction m with
  | zero => intro sc lvl s t h; cases h
  | succ m ih =>
    intro sc lvl s t
    have b1 := rounds_shape (P := P) (ask := ask) (path := path) (x := x) (lvl := lvl) (cds := ((canL P s x sc).length : Nat)) 24 (canL P s x sc) s 0 t (fun k hk => by
      have := canL_mem.mp hk
      exact ⟨this.1, this.2.1⟩)
    unfold spSeek
    cases hc : (spRounds P ask path x lvl ((canL P s x sc).length : Nat) 24 (canL P s x sc) s 0).2.2.1 with
    | some t1 => exact b1
    | none =>
      dsimp only
      by_cases q2 : (spRounds P ask path x lvl ((canL P s x sc).length : Nat) 24 (canL P s x sc) s 0).2.1 = 0
      · rw [if_neg (fun w => w q2)]
        by_cases q3 : tA P.1 sc = -1
        · rw [if_pos q3]
          exact b1
        · rw [if_neg q3]
          exact ih _ _ _ t
      · rw [if_pos q2]
        intro h h0
        exact absurd h0 q2
theorem row_ex (hg : gok s) (hr : repI s) (x0 : 0 ≤ x) (x1 : x < hN s) (hc : clsd (rowE (hG s) (hN s) (hE s) x) = true) {ρ : Int → List Int} (hρ : solE (hG s) (hN s) (hE s) ρ) : ρ x = rowE (hG s) (hN s) (hE s) x := by
  obtain ⟨β, hr⟩ := hr
  have q' := (hr.2.2 _).mp (ex_sol hg.1 hr.1 hr.2.1)
  rw [solE_cl hg.1 hr x0 x1 hc hρ q', rowE_eq hg.1 hr x0 x1]
  rw [rowE_eq hg.1 hr x0 x1] at hc
  exact (cno_cl (clsd_cno hc)).symm
theorem sol_ne (hg : gok s) (hr : repI s) : ∃ ρ, solE (hG s) (hN s) (hE s) ρ := by
  obtain ⟨β, hr⟩ := hr
  exact ⟨_, (hr.2.2 _).mp (ex_sol hg.1 hr.1 hr.2.1)⟩
theorem rw_cl (hg : gok s) (hr : repI s) (x0 : 0 ≤ x) (x1 : x < hN s) (hi : xs[i]? = some x) (hc : clsd (rowE (hG s) (hN s) (hE s) x) = true) : rwD (slS s xs) i = some (rowE (hG s) (hN s) (hE s) x) := by
  obtain ⟨ρ, hρ⟩ := sol_ne hg hr
  refine rwD_some ⟨hc, ⟨_, ρ, hρ, rfl⟩, fun τ hτ => ?_⟩
  obtain ⟨ρ', hρ', e⟩ := hτ
  rw [e, get_map hi]
  exact row_ex hg hr x0 x1 hc hρ'
theorem rw_op (hg : gok s) (hr : repI s) (x0 : 0 ≤ x) (x1 : x < hN s) (hi : xs[i]? = some x) (hc : ¬ clsd (rowE (hG s) (hN s) (hE s) x) = true) : rwD (slS s xs) i = none := by
  refine rwD_none (fun w => ?_)
  obtain ⟨r, h1, -, h2⟩ := w
  obtain ⟨β, hr⟩ := hr
  have q' := (hr.2.2 _).mp (ex_sol hg.1 hr.1 hr.2.1)
  have h3 := h2 _ ⟨_, q', rfl⟩
  rw [get_map hi] at h3
  rw [rowE_eq hg.1 hr x0 x1, h3, cno_cl (fun t ht => of_decide_eq_true (List.all_eq_true.mp h1 t ht))] at hc
  exact hc h1
theorem one_S (hg : gok s) (hr : repI s) (x0 : 0 ≤ x) (x1 : x < hN s) (hc : clsd (rowE (hG s) (hN s) (hE s) x) = true) : slS s [x] = oneD (rowE (hG s) (hN s) (hE s) x) := by
  funext τ
  refine propext ⟨fun w => ?_, fun w => ?_⟩
  · obtain ⟨ρ, hρ, e⟩ := w
    show τ = [_]
    rw [e, ← row_ex hg hr x0 x1 hc hρ]
    rfl
  · obtain ⟨ρ, hρ⟩ := sol_ne hg hr
    have e : τ = [rowE (hG s) (hN s) (hE s) x] := w
    refine ⟨ρ, hρ, ?_⟩
    rw [e, ← row_ex hg hr x0 x1 hc hρ]
    rfl
theorem askD_cl (h : rwD S i = some r) (hf : fndM M0 P.2.2.2.1 r = none) (n : Nat) : askD P M0 (n + 1) S L i = (skD P (askD P M0 n) 1 0 (oneD r) 6 P.2.2.2.1).bind (fun v => some (v.map (fun _ => S))) := by
  conv => lhs; unfold askD
  rw [h]
  dsimp only
  rw [hf]
theorem askD_op (h : rwD S i = none) (n : Nat) : askD P M0 (n + 1) S L i = skD P (askD P M0 n) L i S 6 P.2.2.2.1 := by
  conv => lhs; unfold askD
  rw [h]
theorem cl_hit {A : zM} (hr : clsd r = true) (hrw : rwD S i = some r) (hf : fndM M0 P.2.2.2.1 r = none) (h : hit P M0 (fun n => skD P (askD P M0 n) 1 0 (oneD r) 6 P.2.2.2.1) v A) : hit P M0 (fun n => askD P M0 n S L i) (v.map (fun _ => S)) A ∧ (∀ n, ¬ askD P M0 n S L i = none → toD P M0 r n) ∧ ∃ n, askD P M0 n (oneD r) 1 0 = some (v.map (fun _ => oneD r)) := by
  obtain ⟨⟨n1, e1⟩, h2⟩ := h
  dsimp only at e1
  refine ⟨⟨⟨n1 + 1, ?_⟩, fun n hn e he => ?_⟩, fun n hn => ?_, n1 + 1, ?_⟩
  · dsimp only
    rw [askD_cl hrw hf, e1]
    rfl
  · cases n with
    | zero => exact absurd rfl hn
    | succ n =>
      dsimp only at hn
      rw [askD_cl hrw hf] at hn
      obtain ⟨n', c1, c2⟩ := h2 n (fun w => hn (by dsimp only at w; rw [w]; rfl)) e he
      exact ⟨n', by omega, c2⟩
  · cases n with
    | zero => exact absurd rfl hn
    | succ n =>
      rw [askD_cl hrw hf] at hn
      unfold toD
      rw [askD_cl (rwD_one hr) hf]
      intro w
      refine hn ?_
      cases q : skD P (askD P M0 n) 1 0 (oneD r) 6 P.2.2.2.1 with
      | none => rfl
      | some u =>
        rw [q] at w
        cases w
  · rw [askD_cl (rwD_one hr) hf, e1]
    rfl
theorem op_hit {A : zM} (hrw : rwD S i = none) (h : hit P M0 (fun n => skD P (askD P M0 n) L i S 6 P.2.2.2.1) v A) : hit P M0 (fun n => askD P M0 n S L i) v A := by
  obtain ⟨⟨n1, e1⟩, h2⟩ := h
  refine ⟨⟨n1 + 1, ?_⟩, fun n hn e he => ?_⟩
  · dsimp only
    rw [askD_op hrw]
    exact e1
  · cases n with
    | zero => exact absurd rfl hn
    | succ n =>
      dsimp only at hn
      rw [askD_op hrw] at hn
      obtain ⟨n', c1, c2⟩ := h2 n hn e he
      exact ⟨n', by omega, c2⟩
theorem exp_ne {t : List zI} (h : ∃ z l, t = .inl z :: l) (s : zS) : ¬ expT M (t.map (kepI s)) = [] := by
  obtain ⟨z, l, e⟩ := h
  rw [e, List.map_cons]
  obtain ⟨a, b, c, d, e, f, y, w⟩ := z
  cases w with
  | none => exact fun w => by cases w
  | some w => exact fun w => by cases w
theorem ask_D (hT : tok P.1) (hrem : P.2.2.2.2 = true) : ∀ (m : Nat) (path : List (Int × Int)), akD P M0 (askS P m path) := by
  intro m
  induction m with
  | zero =>
    intro path s x xs i hg hr hx hi hm h0
    exact absurd h0 (by show ¬ (4 : Int) = 0; decide)
  | succ m ih =>
    intro path s x xs i hg hr hx hi hm
    obtain ⟨x0, x1⟩ := hx x (List.mem_of_getElem? hi)
    unfold askS
    by_cases q1 : sA s = 200
    · rw [if_pos q1]
      exact fun h0 => absurd h0 (by show ¬ (3 : Int) = 0; decide)
    · rw [if_neg q1]
      by_cases q2 : 20 ≤ path.length
      · rw [if_pos q2]
        exact fun h0 => absurd h0 (by show ¬ (4 : Int) = 0; decide)
      · rw [if_neg q2]
        by_cases q3 : 100 < (rowE (hG s) (hN s) (hE s) x).length
        · rw [if_pos q3]
          exact fun h0 => absurd h0 (by show ¬ (5 : Int) = 0; decide)
        · rw [if_neg q3]
          have hA := hg.2.2.2
          have hB : gok (s.1, sM s, sA s + 1, sMt s, sC s, sTr s, max (sD s) ((path.length : Nat) + 1)) := ⟨hg.1, hg.2.1, hg.2.2.1, by show sA s + 1 ≤ 200; omega⟩
          have keyD := fun (xs : List Int) (i : Nat) (hx : ∀ y, y ∈ xs → 0 ≤ y ∧ y < hN s) (hi : xs[i]? = some x) => seek_D (P := P) (M0 := M0) (ask := fun k s' y => askS P m (path ++ [(k, x)]) s' y) (path := path) (x := x) (xs := xs) (i := i) (B := (s.1, sM s, sA s + 1, sMt s, sC s, sTr s, max (sD s) ((path.length : Nat) + 1))) hT (fun k s y => ask_R hT m _ s y) (fun k => ask_I hT m _) (fun k => ih _) hB hr x0 x1 hx hi 6 P.2.2.2.1 0 (s.1, sM s, sA s + 1, sMt s, sC s, sTr s, max (sD s) ((path.length : Nat) + 1)) (Int.le_refl _) (by show sA s + 1 ≤ 200; omega) rfl hm
          have keyI := seek_I (P := P) (ask := fun k s' y => askS P m (path ++ [(k, x)]) s' y) (path := path) (x := x) (B := (s.1, sM s, sA s + 1, sMt s, sC s, sTr s, max (sD s) ((path.length : Nat) + 1))) hT (fun k s y => ask_R hT m _ s y) (fun k => ask_I hT m _) hB hr x0 x1 6 P.2.2.2.1 0 (s.1, sM s, sA s + 1, sMt s, sC s, sTr s, max (sD s) ((path.length : Nat) + 1)) (Int.le_refl _) (by show sA s + 1 ≤ 200; omega) rfl
          have keyS := seek_shape (P := P) (ask := fun k s' y => askS P m (path ++ [(k, x)]) s' y) (path := path) (x := x) 6 P.2.2.2.1 0 (s.1, sM s, sA s + 1, sMt s, sC s, sTr s, max (sD s) ((path.length : Nat) + 1))
          by_cases hc : clsd (rowE (hG s) (hN s) (hE s) x) = true
          · have e1 : (P.2.2.2.2 && clsd (rowE (hG s) (hN s) (hE s) x)) = true := by rw [hrem, hc]; rfl
            rw [if_pos e1]
            have hrw := rw_cl hg hr x0 x1 hi hc
            have hm0 := hm
            obtain ⟨A0, hA0, hA1⟩ := hm
            cases hf : fndM (sM s) P.2.2.2.1 (rowE (hG s) (hN s) (hE s) x) with
            | some j =>
              intro _ _
              dsimp only
              refine ⟨hm0, [], (List.append_nil _).symm, ?_, fun _ _ e he => (by cases he)⟩
              have ev : ∀ z : zM × (Int × Int × Int × Int × Int), resD (s.1, z) (if memT (sM s) j = [] then none else some [.inr j]) xs = if memT (sM s) j = [] then none else some (slS s xs) := fun z => by
                by_cases q : memT (sM s) j = []
                · rw [if_pos q, if_pos q]; rfl
                · rw [if_neg q, if_neg q]; rfl
              rw [ev]
              cases hf0 : fndM M0 P.2.2.2.1 (rowE (hG s) (hN s) (hE s) x) with
              | some j0 =>
                obtain ⟨e, -, -, g1, g2⟩ := fnd_some hf0
                have g3 := g2 A0
                rw [← hA0] at g3
                have ej : j0 = j := Option.some.inj (g3.1.symm.trans hf)
                rw [ej] at g1 g3
                refine ⟨1, ?_⟩
                show askD P M0 (0 + 1) (slS s xs) xs.length i = _
                conv => lhs; unfold askD
                rw [hrw]
                dsimp only
                rw [hf0]
                dsimp only
                rw [ej, g1, g3.2]
              | none =>
                obtain ⟨e, g0, ⟨g1, g2⟩, g3, -⟩ := fnd_some hf
                have hm1 : e ∈ A0 := by
                  rw [hA0] at g0
                  rcases List.mem_append.mp g0 with w | w
                  · exact absurd ⟨g1, g2⟩ (fnd_none.mp hf0 e w)
                  · exact w
                obtain ⟨-, n, b2⟩ := hA1 e hm1
                rw [g2] at b2
                cases n with
                | zero => cases b2
                | succ n =>
                  refine ⟨n + 1, ?_⟩
                  dsimp only
                  rw [askD_cl (rwD_one hc) hf0] at b2
                  rw [askD_cl hrw hf0, g3]
                  obtain ⟨u, c1, c2⟩ := Option.bind_eq_some_iff.mp b2
                  rw [c1]
                  have c3 := Option.some.inj c2
                  refine congrArg some ?_
                  cases u with
                  | none =>
                    by_cases q : e.2.2 = []
                    · rw [if_pos q]; rfl
                    · rw [if_neg q] at c3; cases c3
                  | some u =>
                    by_cases q : e.2.2 = []
                    · rw [if_pos q] at c3; cases c3
                    · rw [if_neg q]; rfl
            | none =>
              dsimp only
              have hf0 : fndM M0 P.2.2.2.1 (rowE (hG s) (hN s) (hE s) x) = none := by
                refine fnd_none.mpr (fun e he => fnd_none.mp hf e ?_)
                rw [hA0]
                exact List.mem_append_left _ he
              have key := keyD [x] 0 (fun y hy => by
                have := List.mem_singleton.mp hy
                rw [this]; exact ⟨x0, x1⟩) rfl
              rw [show slS (s.1, sM s, sA s + 1, sMt s, sC s, sTr s, max (sD s) ((path.length : Nat) + 1)) [x] = _ from (slS_1 (s' := s) rfl).trans (one_S hg hr x0 x1 hc)] at key
              generalize spSeek P (fun k s' y => askS P m (path ++ [(k, x)]) s' y) path x 6 P.2.2.2.1 0 (s.1, sM s, sA s + 1, sMt s, sC s, sTr s, max (sD s) ((path.length : Nat) + 1)) = R at key keyI keyS
              have body : R.2.1 = 0 → sC R.1 = sC s → ∀ (R' : zS × zQ), R'.1.1 = R.1.1 → (R'.2.2.1 = none ↔ R.2.2.1 = none) → (sM R'.1 = sM R.1 ∨ ∃ tr, sM R'.1 = sM R.1 ++ [(P.2.2.2.1, rowE (hG s) (hN s) (hE s) x, tr)] ∧ (tr = [] ↔ R.2.2.1 = none)) → outD P M0 (sM s) (sM R'.1) (fun n => askD P M0 n (slS s xs) xs.length i) (resD R'.1 R'.2.2.1 xs) := by
                intro r0 rC R' p1 p2 p3
                obtain ⟨m1, A1, m2, m3⟩ := key r0 rC
                obtain ⟨c1, c2, n3, c3⟩ := cl_hit (L := xs.length) hc hrw hf0 m3
                have er : (resD R.1 R.2.2.1 [x]).map (fun _ => slS s xs) = resD R'.1 R'.2.2.1 xs := by
                  cases ht : R.2.2.1 with
                  | none =>
                    rw [p2.mpr ht]
                    rfl
                  | some t =>
                    cases ht' : R'.2.2.1 with
                    | none =>
                      rw [p2.mp ht'] at ht
                      cases ht
                    | some t' =>
                      obtain ⟨w1, w2, -⟩ := keyI t ht
                      show some (slS s xs) = some (slS R'.1 xs)
                      rw [slS_1 p1, slS_fr (s := s) (s' := R.1) hg hr w1 x0 x1 hc w2 hx]
                rw [er] at c1
                rcases p3 with p3 | ⟨tr, p3, p4⟩
                · rw [p3]
                  exact ⟨m1, A1, m2, c1⟩
                · rw [p3]
                  obtain ⟨A2, m1a, m1b⟩ := m1
                  refine ⟨⟨A2 ++ [(P.2.2.2.1, rowE (hG s) (hN s) (hE s) x, tr)], by rw [m1a, List.append_assoc], fun e he => ?_⟩, A1 ++ [(P.2.2.2.1, rowE (hG s) (hN s) (hE s) x, tr)], by rw [m2, List.append_assoc]; rfl, c1.1, fun n hn e he => ?_⟩
                  · rcases List.mem_append.mp he with w | w
                    · exact m1b e w
                    · have ee := List.mem_singleton.mp w
                      rw [ee]
                      refine ⟨rfl, n3, ?_⟩
                      dsimp only
                      rw [c3]
                      refine congrArg some ?_
                      cases ht : R.2.2.1 with
                      | none => rw [if_pos (p4.mpr ht)]; rfl
                      | some t => rw [if_neg (fun w => by rw [p4.mp w] at ht; cases ht)]; rfl
                  · rcases List.mem_append.mp he with w | w
                    · exact c1.2 n hn e w
                    · have ee := List.mem_singleton.mp w
                      rw [ee]
                      exact ⟨n, Nat.le_refl _, c2 n hn⟩
              unfold spKeep
              by_cases q : (P.2.2.2.2 && clsd (rowE (hG s) (hN s) (hE s) x)) = true ∧ R.2.1 = 0 ∧ sC R.1 = sC s ∧ (sM R.1).length < 40
              · rw [if_pos q]
                cases ht : R.2.2.1 with
                | none =>
                  intro _ _
                  exact body q.2.1 q.2.2.1 ((R.1.1, sM R.1 ++ [(P.2.2.2.1, rowE (hG s) (hN s) (hE s) x, [])], R.1.2.2), R.2) rfl Iff.rfl (Or.inr ⟨[], rfl, fun _ => ht, fun _ => rfl⟩)
                | some t =>
                  intro _ _
                  exact body q.2.1 q.2.2.1 ((R.1.1, sM R.1 ++ [(P.2.2.2.1, rowE (hG s) (hN s) (hE s) x, expT (sM R.1) (t.map (kepI R.1)))], R.1.2.2), R.2.1, some (t.map (kepI R.1)), R.2.2.2) rfl ⟨fun w => (by cases w), fun w => (by rw [ht] at w; cases w)⟩ (Or.inr ⟨_, rfl, fun w => absurd w (exp_ne (keyS t ht q.2.1) R.1), fun w => (by rw [ht] at w; cases w)⟩)
              · rw [if_neg q]
                intro h0 hC
                exact body h0 hC R rfl Iff.rfl (Or.inl rfl)
          · have e1 : ¬ (P.2.2.2.2 && clsd (rowE (hG s) (hN s) (hE s) x)) = true := fun w => hc (by
              rw [Bool.and_eq_true] at w
              exact w.2)
            rw [if_neg e1]
            dsimp only
            have key := keyD xs i hx hi
            rw [show slS (s.1, sM s, sA s + 1, sMt s, sC s, sTr s, max (sD s) ((path.length : Nat) + 1)) xs = slS s xs from slS_1 rfl] at key
            generalize spSeek P (fun k s' y => askS P m (path ++ [(k, x)]) s' y) path x 6 P.2.2.2.1 0 (s.1, sM s, sA s + 1, sMt s, sC s, sTr s, max (sD s) ((path.length : Nat) + 1)) = R at key
            unfold spKeep
            rw [if_neg (fun w => e1 w.1)]
            intro h0 hC
            obtain ⟨m1, A1, m2, m3⟩ := key h0 hC
            exact ⟨m1, A1, m2, op_hit (rw_op hg hr x0 x1 hi hc) m3⟩
/-- a goal is not remembered while it is asked, if nothing is cut -/
theorem ask_once2 {m : Nat} {path : List (Int × Int)} (hT : tok P.1) (h : gok s) (hr : repI s) (x0 : 0 ≤ x) (x1 : x < hN s) (hrem : P.2.2.2.2 = true) (hc : clsd (rowE (hG s) (hN s) (hE s) x) = true) (hn : fndM (sM s) P.2.2.2.1 (rowE (hG s) (hN s) (hE s) x) = none)
    (h0 : (spSeek P (fun k s' y => askS P m (path ++ [(k, x)]) s' y) path x 6 P.2.2.2.1 0 s).2.1 = 0) (hC : sC (spSeek P (fun k s' y => askS P m (path ++ [(k, x)]) s' y) path x 6 P.2.2.2.1 0 s).1 = sC s) : fndM (sM (spSeek P (fun k s' y => askS P m (path ++ [(k, x)]) s' y) path x 6 P.2.2.2.1 0 s).1) P.2.2.2.1 (rowE (hG s) (hN s) (hE s) x) = none := by
  have key := seek_D (P := P) (M0 := sM s) (ask := fun k s' y => askS P m (path ++ [(k, x)]) s' y) (path := path) (x := x) (xs := [x]) (i := 0) (B := s) hT (fun k s y => ask_R hT m _ s y) (fun k => ask_I hT m _) (fun k => ask_D hT hrem m _) h hr x0 x1 (fun y hy => by
    have := List.mem_singleton.mp hy
    rw [this]; exact ⟨x0, x1⟩) rfl 6 P.2.2.2.1 0 s (Int.le_refl _) h.2.2.2 rfl ⟨[], (List.append_nil _).symm, fun e he => by cases he⟩ h0 hC
  rw [one_S h hr x0 x1 hc] at key
  generalize spSeek P (fun k s' y => askS P m (path ++ [(k, x)]) s' y) path x 6 P.2.2.2.1 0 s = R at key
  obtain ⟨-, A, m2, m3⟩ := key
  obtain ⟨-, -, n1, c3⟩ := cl_hit (L := 1) hc (rwD_one hc) hn m3
  rw [m2]
  refine fnd_none.mpr (fun e he w => ?_)
  rcases List.mem_append.mp he with w1 | w1
  · exact fnd_none.mp hn e w1 w
  · have no : ∀ (B n : Nat), n ≤ B → ¬ toD P (sM s) (rowE (hG s) (hN s) (hE s) x) n := by
      intro B
      induction B with
      | zero =>
        intro n hB hn
        have : n = 0 := by omega
        rw [this] at hn
        exact hn rfl
      | succ B ih =>
        intro n hB ht
        cases n with
        | zero => exact ht rfl
        | succ n =>
          unfold toD at ht
          rw [askD_cl (rwD_one hc) hn] at ht
          obtain ⟨n', d1, d2⟩ := m3.2 n (fun w => ht (by
            have w' : skD P (askD P (sM s) n) 1 0 (oneD (rowE (hG s) (hN s) (hE s) x)) 6 P.2.2.2.1 = none := w
            rw [w']
            rfl)) e w1
          rw [w.2] at d2
          exact ih n' (by omega) d2
    exact no n1 n1 (Nat.le_refl _) (fun w => by rw [c3] at w; cases w)
end ZOt
