/-! What the latest asking told is asked for. -/
section ZAt
variable {P : zP} {s : zS} {x : Int} {M : zM} {r : List Int}
theorem fndM_row {sc : Int} {j : Nat} (h : fndM M sc r = some j) : ∃ e, M[j]? = some e ∧ e ∈ M ∧ e.2.1 = r := by
  unfold fndM at h
  obtain ⟨h1, h2, -⟩ := List.findIdx?_eq_some_iff_getElem.mp h
  have := of_decide_eq_true h2
  exact ⟨M[j], List.getElem?_eq_getElem h1, List.getElem_mem h1, this.2⟩
/-- the row at the root of what is found -/
theorem askS_root {m : Nat} {path : List (Int × Int)} (hm : rmM (sM s)) {R : zS × zQ} (hR : askS P (m + 1) path s x = R) {t : List zI} (ht : R.2.2.1 = some t) : rwZ ((expT (sM R.1) (t.map (kpt (rowE (hG R.1) (hN R.1) (hE R.1))))).headD d0z) = rowE (hG R.1) (hN R.1) (hE R.1) x := by
  unfold askS at hR
  by_cases q1 : sA s = 200
  · rw [if_pos q1] at hR; subst hR; cases ht
  · rw [if_neg q1] at hR
    by_cases q2 : 20 ≤ path.length
    · rw [if_pos q2] at hR; subst hR; cases ht
    · rw [if_neg q2] at hR
      by_cases q3 : 100 < (rowE (hG s) (hN s) (hE s) x).length
      · rw [if_pos q3] at hR; subst hR; cases ht
      · rw [if_neg q3] at hR
        cases hc : (if (P.2.2.2.2 && clsd (rowE (hG s) (hN s) (hE s) x)) = true then fndM (sM s) P.2.2.2.1 (rowE (hG s) (hN s) (hE s) x) else none) with
        | some j =>
          rw [hc] at hR
          dsimp only at hR
          subst hR
          dsimp only at ht
          by_cases qj : memT (sM s) j = []
          · rw [if_pos qj] at ht; cases ht
          · rw [if_neg qj] at ht
            have et : ([.inr j] : List zI) = t := Option.some.inj ht
            have hf : fndM (sM s) P.2.2.2.1 (rowE (hG s) (hN s) (hE s) x) = some j := by
              by_cases qq : (P.2.2.2.2 && clsd (rowE (hG s) (hN s) (hE s) x)) = true
              · rw [if_pos qq] at hc; exact hc
              · rw [if_neg qq] at hc; cases hc
            obtain ⟨e, h1, h2, h3⟩ := fndM_row hf
            have em : memT (sM s) j = e.2.2 := by unfold memT; rw [h1]; rfl
            rw [← et]
            show rwZ ((memT (sM s) j ++ []).headD d0z) = rowE (hG s) (hN s) (hE s) x
            rw [List.append_nil, em, hm.1 e h2 (by rw [← em]; exact qj), h3]
        | none =>
          rw [hc] at hR
          dsimp only at hR
          have keyh := seek_hd (P := P) (ask := fun k s' y => askS P m (path ++ [(k, x)]) s' y) (path := path) (x := x) 6 P.2.2.2.1 0 (s.1, sM s, sA s + 1, sMt s, sC s, sTr s, max (sD s) ((path.length : Nat) + 1))
          generalize spSeek P (fun k s' y => askS P m (path ++ [(k, x)]) s' y) path x 6 P.2.2.2.1 0 (s.1, sM s, sA s + 1, sMt s, sC s, sTr s, max (sD s) ((path.length : Nat) + 1)) = R0 at hR keyh
          unfold spKeep at hR
          split at hR
          · cases h0 : R0.2.2.1 with
            | none =>
              rw [h0] at hR
              dsimp only at hR
              subst hR
              dsimp only at ht
              rw [h0] at ht
              cases ht
            | some t1 =>
              rw [h0] at hR
              dsimp only at hR
              subst hR
              dsimp only at ht
              have et : t1.map (kepI R0.1) = t := Option.some.inj ht
              rw [← et]
              exact (hd_map (f := []) (i0 := id) (keyh t1 h0) R0.1 _).2.2
          · subst hR
            exact (hd_map (f := []) (i0 := id) (keyh t ht) R0.1 _).2.1
theorem askT_root (hm : rmM M) {t : List zI} (q : (askW P M r).2.1 = 0) (h : (askW P M r).2.2.1 = some t) : rwZ ((askT P M r).headD d0z) = rowE (hG (askW P M r).1) (hN (askW P M r).1) (hE (askW P M r).1) (x00 r) := by
  rw [askT_yes q h]
  exact askS_root (P := P) (m := 20) (path := []) (s := s00 r M) (x := x00 r) hm rfl h
/-- the rows of what is found can be written -/
theorem askT_rows (hT : tok P.1) (hr : rwk r) (hm : rmM M) (hM : gdM P.1 M) {t : List zI} (q : (askW P M r).2.1 = 0) (h : (askW P M r).2.2.1 = some t) : ∀ z, z ∈ askT P M r → gdZ P.1 z ∧ rwG (rwZ z) := by
  obtain ⟨o1, o2, o3, ⟨o4, o5⟩, o6, o7⟩ := s00_ok (M := M) (lA_lok hr) hr
  have hIr := ask_I hT 21 [] (s00 r M) (x00 r) o2 ⟨[], o1⟩ o4 o5 t h
  obtain ⟨ir, ist, iv1, iv2⟩ := hIr
  have hrm : rmM (sM (askW P M r).1) := ask_H hT 21 [] (s00 r M) (x00 r) o2 ⟨[], o1⟩ o4 o5 hm
  have hg := ask_G (P := P) hT 21 [] (s00 r M) (x00 r) hM
  have hg1 : gdM P.1 (sM (askW P M r).1) := hg.1
  have hg2 : gdT P.1 t := hg.2 t h
  intro z hz
  rw [askT_yes q h] at hz
  refine ⟨gd_exp (gd_kpt hg2) hg1 z hz, ?_⟩
  unfold expT at hz
  obtain ⟨i, hi, hz2⟩ := List.mem_flatMap.mp hz
  rcases i with z' | m'
  · have ez : z = z' := by simpa using hz2
    rw [← ez] at hi
    obtain ⟨i2, hi2, e2⟩ := List.mem_map.mp hi
    rcases i2 with ⟨a, b, c, d, e', u, y, q'⟩ | m2
    · have e3 : (a, b, c, d, e', u, y, some (rowE (hG (askW P M r).1) (hN (askW P M r).1) (hE (askW P M r).1) y)) = z := Sum.inl.inj e2
      have hz3 := iv2 _ hi2
      rw [← e3]
      exact rowE_G ist.1 ir hz3.2.1 hz3.2.2.1
    · cases e2
  · have hz2 : z ∈ memT (sM (askW P M r).1) m' := hz2
    unfold memT at hz2
    cases q2 : (sM (askW P M r).1)[m']? with
    | none => rw [q2] at hz2; cases hz2
    | some e3 =>
      rw [q2] at hz2
      obtain ⟨rr, h1, h2⟩ := hrm.2 e3 (List.mem_of_getElem? q2) z hz2
      have : rwZ z = rr := by
        unfold rwZ
        have h1 : z.2.2.2.2.2.2.2 = some rr := h1
        rw [h1]
        rfl
      rw [this]
      exact h2
end ZAt
/-- what the latest asking left: the class; the reference; what it is -/
def aPc (σ : jS) (e : Int) (s : zS) (W : List zN) (a b : Int) (c r : List Int) (k : Int) : Prop := (∀ i : Nat, i < 9 → ra σ 12011 0 ((i : Nat) : Int) = (tlW e s W).getD i 0) ∧ cTr σ W ∧ (e = 2 → rs σ 12016 0 = a ∧ rs σ 12017 0 = b ∧ fT σ 246 c) ∧ fT σ 245 r ∧ rs σ 12015 0 = k
def aPm (σ : jS) (e : Int) (s : zS) (W : List zN) (a b : Int) (c r : List Int) (k : Int) : Prop := rs σ 1051 0 = 1 ∧ (∀ i : Nat, i < 9 → ra σ 1112 0 ((i : Nat) : Int) = (tlW e s W).getD i 0) ∧ mTr σ W ∧ (e = 0 → mAn σ (rwZ (W.headD d0z))) ∧ (e = 2 → rs σ 1128 0 = a ∧ rs σ 1129 0 = b ∧ mAn σ c) ∧ (¬ e = 0 → ¬ e = 2 → rs σ 1127 0 = 0) ∧ (rs σ 1049 0 = ((r.length : Nat) : Int) ∧ (∀ i : Nat, i < r.length → ra σ 1048 0 ((i : Nat) : Int) = r.getD i 0) ∧ rs σ 1050 0 = k)
def aPp (T : zT) (e : Int) (W : List zN) (c r : List Int) (k : Int) : Prop := (0 ≤ e ∧ e ≤ 6) ∧ (W = [] ∨ trK W) ∧ (e = 0 → trK W) ∧ (¬ e = 0 → W = []) ∧ (∀ z, z ∈ W → gdZ T z ∧ rwG (rwZ z)) ∧ (e = 2 → c.length ≤ 100 ∧ rwG c) ∧ rwk r ∧ 0 ≤ k ∧ k < tS T
section ZAu
variable {n : Nat} {σ0 σ σ1 : jS} {T : zT} {M : zM} {e a b k i w : Int} {s : zS} {W : List zN} {c r : List Int}
theorem c_goalIntF {Q : jS → Prop} {fb nb k : Int} {z : zN} {u : Int × Int} {r : List Int} (hn : 2 ≤ n) (hf : (fb = 0 ∧ nb = 0) ∨ (fb = 1 ∧ nb = 2)) (hfb : rs σ 3000 fb = nb) (k0 : 0 ≤ k) (k1 : k < rs σ 6000 nb) (hl : rs σ 6000 nb * 8 ≤ rl σ 6001 nb) (hg : gr3 (rl σ 6001 nb)) (s1 : rs σ 3002 fb ≤ 900000) (sl : rs σ 3002 fb ≤ rl σ 3001 fb) (l0 : rl σ 0 1 = 100) (hzr : (z.2.2.2.2.2.2.2).getD [] = r) (hN : forN σ nb fb k z u)
    (hq : ∀ σ', sq [(0, 1), (1, 1)] σ σ' → (rs σ' 1 1 = if r.length ≤ 100 then ((r.length : Nat) : Int) else 101) → (r.length ≤ 100 → fT σ' 1 r) → Q σ') : TrV n i_Forest_goalInto [jo 3 fb, ji k, jo 0 1] σ Q := by
  have hgl : rl σ 6001 nb ≤ 200000 := by unfold gr3 at hg; omega
  obtain ⟨⟨y8, y9⟩, z0, z1, z2, z3, z4, z5, z7, z6⟩ := hN
  rw [hzr] at z7 z6
  refine wp_Forest_goalInto ⟨by omega, by omega, wp_Flat_clear ⟨by omega, fun s2 e2 => ?_⟩⟩
  have f2 : sq [(0, 1), (1, 1)] σ s2 := by rw [e2]; exact (sq.rf _ σ).pws 1 1 _ (by decide)
  have c2 : rs s2 1 1 = 0 := by rw [e2, rs_ws, if_pos ⟨rfl, rfl⟩]
  have a1 : rs s2 3000 fb = nb := by rw [f2.nrs 3000 fb (by simp)]; exact hfb
  have a2 : rs s2 6000 nb = rs σ 6000 nb := f2.nrs 6000 nb (by simp)
  have a3 : ra s2 6001 nb = ra σ 6001 nb := f2.nraf 6001 nb (by simp)
  have a4 : rl s2 6001 nb = rl σ 6001 nb := f2.nrl 6001 nb
  rw [a1]
  refine ⟨by omega, by omega, c_nget (c := 6) (by omega) k0 (by omega) (by decide) (by omega) (by omega) ?_⟩
  rw [a1]
  refine ⟨by omega, c_nget (c := 7) (by omega) k0 (by omega) (by decide) (by omega) (by omega) ?_⟩
  rw [a3, show k * 8 + ((6 : Nat) : Int) = k * 8 + 6 by omega, show k * 8 + ((7 : Nat) : Int) = k * 8 + 7 by omega, z7]
  by_cases q : r.length ≤ 100
  · obtain ⟨y1, y2, y3⟩ := z6 q
    rw [if_pos q]
    generalize hF : ra σ 6001 nb (k * 8 + 6) = F at y1 y2 y3
    have loop : ∀ (m i : Nat) (σ1 : jS), i + m = r.length → sq [(0, 1), (1, 1)] σ σ1 → rs σ1 1 1 = (i : Nat) → (∀ j : Nat, j < i → ra σ1 0 1 j = cc (r.getD j 0)) → J n c_Forest_goalInto none 30 [some (jo 3 fb), none, some (jo 0 1), some (ji F), some (ji (r.length : Nat)), some (ji (i : Nat)), none] [] σ1 (qV Q) := by
      intro m
      induction m with
      | zero =>
        intro i σ1 hi f1 c1 c3
        have ei : i = r.length := by omega
        refine wp_Forest_goalInto_30 ?_
        rw [if_pos (by omega)]
        refine hq σ1 f1 (by rw [if_pos q, c1, ei]) (fun _ => ⟨by omega, by rw [c1, ei], by rw [f1.nrl 0 1, l0]; omega, fun j hj => c3 j (by omega)⟩)
      | succ m ih =>
        intro i σ1 hi f1 c1 c3
        have b1 : rs σ1 3002 fb = rs σ 3002 fb := f1.nrs 3002 fb (by simp)
        have b2 : rl σ1 3001 fb = rl σ 3001 fb := f1.nrl 3001 fb
        have b3 : ra σ1 3001 fb = ra σ 3001 fb := f1.nraf 3001 fb (by simp)
        have b4 : rl σ1 0 1 = 100 := by rw [f1.nrl 0 1]; exact l0
        refine wp_Forest_goalInto_30 ?_
        rw [if_neg (by omega)]
        refine ⟨⟨by omega, by omega⟩, by omega, ?_⟩
        rw [if_neg (by omega), if_neg (by omega)]
        refine ⟨by omega, ?_⟩
        rw [b1, if_neg (by omega), b2, b3, y3 i (by omega)]
        refine ⟨by omega, by omega, by omega, by omega, c_add (by omega) (by omega) (by omega) (by omega) (fun σ2 g1 g2 g3 => ⟨⟨by omega, by omega⟩, ?_⟩)⟩
        rw [show ((i : Nat) : Int) + 1 = ((i + 1 : Nat) : Int) by omega]
        refine ih (i + 1) σ2 (by omega) (f1.tr g1) (by rw [g2, c1]; omega) (fun j hj => ?_)
        rw [g3, if_pos (by omega), c1]
        unfold upI
        by_cases w : j = i
        · rw [if_pos (by omega), w]
        · rw [if_neg (by omega)]; exact c3 j (by omega)
    exact loop r.length 0 s2 (by omega) f2 c2 (fun j hj => absurd hj (Nat.not_lt_zero j))
  · rw [if_neg q]
    have loop : ∀ (m i : Nat) (σ1 : jS), i + m = 101 → sq [(0, 1), (1, 1)] σ σ1 → rs σ1 1 1 = (i : Nat) → J n c_Forest_goalInto none 30 [some (jo 3 fb), none, some (jo 0 1), some (ji (ra σ 6001 nb (k * 8 + 6))), some (ji 101), some (ji (i : Nat)), none] [] σ1 (qV Q) := by
      intro m
      induction m with
      | zero =>
        intro i σ1 hi f1 c1
        refine wp_Forest_goalInto_30 ?_
        rw [if_pos (by omega)]
        exact hq σ1 f1 (by rw [if_neg q, c1]; omega) (fun w => absurd w q)
      | succ m ih =>
        intro i σ1 hi f1 c1
        have b4 : rl σ1 0 1 = 100 := by rw [f1.nrl 0 1]; exact l0
        refine wp_Forest_goalInto_30 ?_
        rw [if_neg (by omega)]
        refine ⟨⟨by omega, by omega⟩, by omega, ?_⟩
        · rw [if_pos (by omega)]
          refine ⟨by omega, c_add (by omega) (by omega) (by omega) (by omega) (fun σ2 g1 g2 g3 => ⟨⟨by omega, by omega⟩, ?_⟩)⟩
          rw [show ((i : Nat) : Int) + 1 = ((i + 1 : Nat) : Int) by omega]
          exact ih (i + 1) σ2 (by omega) (f1.tr g1) (by rw [g2, c1]; omega)
    exact loop 101 0 s2 (by omega) f2 c2
theorem c_asked {Q : Int → jS → Prop} (hc : cln σ) (hA : aPc σ e s W a b c r k) (hp : aPp T e W c r k) (hq : Q (if 0 ≤ i ∧ i < 9 then (tlW e s W).getD i.toNat 0 else -1) σ) : TrI n i_Top_asked [jo 12 0, ji i] σ Q := by
  have l11 := cln_at hc 12011 0 9 (by decide)
  have v0 : ra σ 12011 0 0 = e := hA.1 0 (by omega)
  refine wp_Top_asked ⟨by omega, by omega, by omega, ?_⟩
  have he := hp.1
  rw [v0, if_neg (by omega), l11]
  by_cases q : i < 0
  · rw [if_pos q]
    rw [if_neg (by omega)] at hq
    exact hq
  · rw [if_neg q]
    by_cases q2 : i < 9
    · rw [if_pos q2]
      rw [if_pos (by omega)] at hq
      have := hA.1 i.toNat (by omega)
      rw [show ((i.toNat : Nat) : Int) = i by omega] at this
      rw [this]
      exact ⟨by omega, by omega, hq⟩
    · rw [if_neg q2]
      rw [if_neg (by omega)] at hq
      exact hq
theorem t_asked {Q : Int → jS → Prop} (hn : 1 ≤ n) (hm : mln σ) (hA : aPm σ e s W a b c r k) (hq : Q (if 0 ≤ i ∧ i < 9 then (tlW e s W).getD i.toNat 0 else -1) σ) : TrI n i_Model_asked [jo 1 0, ji i] σ Q := by
  have l12 := mln_at hm 1112 9 (by decide)
  refine wp_Model_asked ⟨by omega, ?_⟩
  rw [hA.1, if_neg (by decide)]
  refine ⟨by omega, wp_Model_isIn ?_⟩
  by_cases q : i < 0
  · rw [if_pos q, if_pos rfl]
    rw [if_neg (by omega)] at hq
    exact hq
  · rw [if_neg q]
    by_cases q2 : 8 < i
    · rw [if_pos q2, if_pos rfl]
      rw [if_neg (by omega)] at hq
      exact hq
    · rw [if_neg q2, if_neg (by decide), l12]
      rw [if_pos (by omega)] at hq
      have := hA.2.1 i.toNat (by omega)
      rw [show ((i.toNat : Nat) : Int) = i by omega] at this
      rw [this]
      exact ⟨by omega, by omega, by omega, hq⟩
/-- what node(k, w) answers -/
def ndV (W : List zN) (i w : Int) : Int := if ¬ (0 ≤ i ∧ i < ((W.length : Nat) : Int)) then -2 else if w = 0 then (W.getD i.toNat d0z).1 else if w = 1 then upT W i else if w = 2 then ndT W i else if w = 3 then (W.getD i.toNat d0z).2.1 else if w = 4 then (W.getD i.toNat d0z).2.2.1 else if w = 5 then (W.getD i.toNat d0z).2.2.2.1 else if w = 6 then (W.getD i.toNat d0z).2.2.2.2.1 else if w = 7 then (if (rwZ (W.getD i.toNat d0z)).length ≤ 100 then (((rwZ (W.getD i.toNat d0z)).length : Nat) : Int) else 101) else -2
theorem c_has {Q : Int → jS → Prop} (h : cTr σ W) (h0 : ¬ (0 ≤ i ∧ i < ((W.length : Nat) : Int)) → Q 0 σ) (h1 : 0 ≤ i ∧ i < ((W.length : Nat) : Int) → Q 1 σ) : TrI n i_Nodes_has [jo 6 2, ji i] σ Q := by
  refine wp_Nodes_has ?_
  by_cases q : i < 0
  · rw [if_pos q]; exact h0 (by omega)
  · rw [if_neg q, h.1]
    refine ⟨by omega, ?_⟩
    by_cases q2 : ((W.length : Nat) : Int) ≤ i
    · rw [if_pos q2]; exact h0 (by omega)
    · rw [if_neg q2]; exact h1 (by omega)
set_option maxRecDepth 8000 in
theorem c_node {Q : Int → jS → Prop} (hn : 2 ≤ n) (hC : cC σ) (h : cTr σ W) (hg : ∀ z, z ∈ W → gdZ T z ∧ rwG (rwZ z)) (hq : Q (ndV W i w) σ) : TrI n i_Top_node [jo 12 0, ji i, ji w] σ Q := by
  have t14 := cC_at hC 12014 0 1 (by decide)
  have t30 := cC_at hC 3000 1 2 (by decide)
  unfold ndV at hq
  refine wp_Top_node ⟨by omega, by omega, by omega, by rw [t14, t30]; omega, ?_⟩
  rw [t14, t30]
  refine c_has h (fun q => ?_) (fun q => ?_)
  · rw [if_pos q] at hq
    rw [if_neg (by decide)]
    exact hq
  · rw [if_neg (fun h => h q)] at hq
    rw [if_pos (by decide), t14, t30]
    have hN := cTr_at h q.1 q.2
    obtain ⟨-, m0, m1, m2, m3, m4, m5, m7, -⟩ := hN
    have ed : (W.getD i.toNat (0, 0, 0, 0, 0, 0, 0, none)) = W.getD i.toNat d0z := rfl
    rw [ed] at m0 m3 m4 m5 m7
    have g := (hg _ (show W.getD i.toNat d0z ∈ W from gd_mem (by omega))).1
    obtain ⟨g1, g2, g3, g4, g5, g6⟩ := g
    have get : ∀ (cc0 : Nat) (K : Int → jS → Prop), cc0 < 8 → K (ra σ 6001 2 (i * 8 + ((cc0 : Nat) : Int))) σ → TrI (n - 1) i_Nodes_get [jo 6 2, ji i, ji ((cc0 : Nat) : Int)] σ K := fun cc0 K hc hK => c_tget h q.1 q.2 hc hK
    by_cases w0 : w = 0
    · rw [if_pos w0] at hq
      subst w0
      rw [if_neg (by decide), if_neg (by decide)]
      refine ⟨by omega, by omega, get 0 _ (by decide) ?_⟩
      rw [show i * 8 + ((0 : Nat) : Int) = i * 8 + 0 by omega, m0]
      exact hq
    rw [if_neg w0] at hq
    by_cases w1 : w = 1
    · rw [if_pos w1] at hq
      subst w1
      rw [if_neg (by decide), if_neg (by decide)]
      refine ⟨by omega, by omega, get 1 _ (by decide) ?_⟩
      rw [show i * 8 + ((1 : Nat) : Int) = i * 8 + 1 by omega, m1]
      exact hq
    rw [if_neg w1] at hq
    by_cases w2 : w = 2
    · rw [if_pos w2] at hq
      subst w2
      rw [if_neg (by decide), if_neg (by decide)]
      refine ⟨by omega, by omega, get 2 _ (by decide) ?_⟩
      rw [show i * 8 + ((2 : Nat) : Int) = i * 8 + 2 by omega, m2]
      exact hq
    rw [if_neg w2] at hq
    by_cases w3 : w = 3
    · rw [if_pos w3] at hq
      subst w3
      rw [if_neg (by decide), if_neg (by decide)]
      refine ⟨by omega, by omega, get 3 _ (by decide) ?_⟩
      rw [show i * 8 + ((3 : Nat) : Int) = i * 8 + 3 by omega, m3]
      exact hq
    rw [if_neg w3] at hq
    by_cases w4 : w = 4
    · rw [if_pos w4] at hq
      subst w4
      rw [if_neg (by decide), if_neg (by decide)]
      refine ⟨by omega, by omega, get 4 _ (by decide) ?_⟩
      rw [show i * 8 + ((4 : Nat) : Int) = i * 8 + 4 by omega, m4]
      exact hq
    rw [if_neg w4] at hq
    by_cases w5 : w = 5
    · rw [if_pos w5] at hq
      subst w5
      rw [if_neg (by decide), if_neg (by decide)]
      refine ⟨by omega, by omega, get 5 _ (by decide) ?_⟩
      rw [show i * 8 + ((5 : Nat) : Int) = i * 8 + 5 by omega, m5]
      exact hq
    rw [if_neg w5] at hq
    have at39 : (if ¬ w = 6 then (if ¬ w = 7 then Q (-2) σ else Q (ra σ 6001 2 (i * 8 + 7)) σ) else Q (ra σ 6001 2 (i * 8 + 4) - ra σ 6001 2 (i * 8 + 5) - 1) σ) → J n c_Top_node (some .int) 39 [some (jo 12 0), some (ji i), some (ji w)] [] σ (qI Q) := by
      intro hh
      refine wp_Top_node_39 ?_
      by_cases w6 : w = 6
      · rw [if_neg (fun h => h w6)] at hh ⊢
        rw [t14, t30]
        refine ⟨by omega, by omega, by omega, by omega, get 4 _ (by decide) ?_⟩
        rw [t14, t30]
        refine ⟨by omega, by omega, get 5 _ (by decide) ?_⟩
        rw [show i * 8 + ((4 : Nat) : Int) = i * 8 + 4 by omega, show i * 8 + ((5 : Nat) : Int) = i * 8 + 5 by omega]
        rw [m4, m5] at hh ⊢
        exact ⟨⟨by omega, by omega⟩, ⟨by omega, by omega⟩, hh⟩
      · rw [if_pos w6] at hh ⊢
        by_cases w7 : w = 7
        · rw [if_neg (fun h => h w7)] at hh ⊢
          rw [t14, t30]
          refine ⟨by omega, by omega, by omega, by omega, get 7 _ (by decide) ?_⟩
          rw [show i * 8 + ((7 : Nat) : Int) = i * 8 + 7 by omega]
          exact hh
        · rw [if_pos w7] at hh ⊢
          exact hh
    have h39 : J n c_Top_node (some .int) 39 [some (jo 12 0), some (ji i), some (ji w)] [] σ (qI Q) := by
      refine at39 ?_
      by_cases w6 : w = 6
      · rw [if_pos w6] at hq
        rw [if_neg (fun h => h w6), m4, m5]
        rw [show (W.getD i.toNat d0z).2.2.1 - (W.getD i.toNat d0z).2.2.2.1 - 1 = (W.getD i.toNat d0z).2.2.2.2.1 by omega]
        exact hq
      · rw [if_neg w6] at hq
        rw [if_pos w6]
        by_cases w7 : w = 7
        · rw [if_pos w7] at hq
          rw [if_neg (fun h => h w7), m7]
          exact hq
        · rw [if_neg w7] at hq
          rw [if_pos w7]
          exact hq
    by_cases wn : w < 0
    · rw [if_pos wn]; exact h39
    · rw [if_neg wn, if_pos (by omega)]; exact h39
theorem t_isNode {Q : Int → jS → Prop} (hn : 3 ≤ n) (hm : mln σ) (hA : aPm σ e s W a b c r k) (hp : aPp T e W c r k) (h0 : ¬ (0 ≤ i ∧ i < ((W.length : Nat) : Int)) → Q 0 σ) (h1 : e = 0 → 0 ≤ i ∧ i < ((W.length : Nat) : Int) → Q 1 σ) : TrI n i_Model_isNode [jo 1 0, ji i] σ Q := by
  have l12 := mln_at hm 1112 9 (by decide)
  have v0 : ra σ 1112 0 0 = e := hA.2.1 0 (by omega)
  refine wp_Model_isNode ⟨by omega, by omega, wp_Model_wasFound ⟨by omega, ?_⟩⟩
  rw [hA.1, if_neg (by decide), l12, v0]
  refine ⟨by omega, by omega, ?_⟩
  by_cases q : e = 0
  · rw [if_neg (fun h => h q), if_neg (by decide), hA.2.2.1.1]
    have hl := (hp.2.2.1 q).2.1
    refine ⟨⟨by omega, by omega⟩, wp_Model_isIn ?_⟩
    by_cases q1 : i < 0
    · rw [if_pos q1, if_pos rfl]; exact h0 (by omega)
    · rw [if_neg q1]
      by_cases q2 : ((W.length : Nat) : Int) - 1 < i
      · rw [if_pos q2, if_pos rfl]; exact h0 (by omega)
      · rw [if_neg q2, if_neg (by decide)]; exact h1 q (by omega)
  · rw [if_pos q, if_pos rfl]
    have := hp.2.2.2.1 q
    exact h0 (by rw [this]; show ¬ (0 ≤ i ∧ i < ((0 : Nat) : Int)); omega)
theorem t_node {Q : Int → jS → Prop} (hn : 4 ≤ n) (hm : mln σ) (hA : aPm σ e s W a b c r k) (hp : aPp T e W c r k) (hq : Q (ndV W i w) σ) : TrI n i_Model_node [jo 1 0, ji i, ji w] σ Q := by
  unfold ndV at hq
  refine wp_Model_node ⟨by omega, by omega, t_isNode (by omega) hm hA hp (fun q => ?_) (fun he q => ?_)⟩
  · rw [if_pos q] at hq
    rw [if_neg (by decide)]
    exact hq
  · rw [if_neg (fun h => h q)] at hq
    rw [if_pos (by decide)]
    have hl := (hp.2.2.1 he).2.1
    have hN := hA.2.2.1.2 i.toNat (by omega)
    unfold nodeR at hN
    rw [show ((i.toNat : Nat) : Int) = i by omega] at hN
    obtain ⟨n1, n2, n3, n4, n5, n6, n7, n8, n9, -⟩ := hN
    rw [mln_at hm 1116 200 (by decide), mln_at hm 1114 200 (by decide), mln_at hm 1115 200 (by decide), mln_at hm 1117 200 (by decide), mln_at hm 1118 200 (by decide), mln_at hm 1119 200 (by decide), mln_at hm 1120 200 (by decide), mln_at hm 1122 200 (by decide), n1, n2, n3, n4, n5, n6, n7, n9]
    by_cases w0 : w = 0
    · rw [if_pos w0] at hq ⊢; exact ⟨by omega, by omega, by omega, hq⟩
    rw [if_neg w0] at hq ⊢
    by_cases w1 : w = 1
    · rw [if_pos w1] at hq ⊢; exact ⟨by omega, by omega, by omega, hq⟩
    rw [if_neg w1] at hq ⊢
    by_cases w2 : w = 2
    · rw [if_pos w2] at hq ⊢; exact ⟨by omega, by omega, by omega, hq⟩
    rw [if_neg w2] at hq ⊢
    by_cases w3 : w = 3
    · rw [if_pos w3] at hq ⊢; exact ⟨by omega, by omega, by omega, hq⟩
    rw [if_neg w3] at hq ⊢
    by_cases w4 : w = 4
    · rw [if_pos w4] at hq ⊢; exact ⟨by omega, by omega, by omega, hq⟩
    rw [if_neg w4] at hq ⊢
    by_cases w5 : w = 5
    · rw [if_pos w5] at hq ⊢; exact ⟨by omega, by omega, by omega, hq⟩
    rw [if_neg w5] at hq ⊢
    by_cases w6 : w = 6
    · rw [if_pos w6] at hq ⊢; exact ⟨by omega, by omega, by omega, hq⟩
    rw [if_neg w6] at hq ⊢
    by_cases w7 : w = 7
    · rw [if_pos w7] at hq ⊢; exact ⟨by omega, by omega, by omega, hq⟩
    rw [if_neg w7] at hq ⊢
    exact hq
/-- what both(w) answers -/
def boV (e a b w : Int) : Int := if ¬ e = 2 then -1 else if w = 0 then a else if w = 1 then b else -1
theorem c_both {Q : Int → jS → Prop} (hc : cln σ) (hA : aPc σ e s W a b c r k) (hq : Q (boV e a b w) σ) : TrI n i_Top_both [jo 12 0, ji w] σ Q := by
  have l11 := cln_at hc 12011 0 9 (by decide)
  have v0 : ra σ 12011 0 0 = e := hA.1 0 (by omega)
  unfold boV at hq
  refine wp_Top_both ⟨by omega, by omega, by omega, ?_⟩
  rw [v0]
  by_cases q : e = 2
  · rw [if_neg (fun h => h q)] at hq ⊢
    obtain ⟨h1, h2, -⟩ := hA.2.2.1 q
    rw [h1, h2]
    by_cases w0 : w = 0
    · rw [if_pos w0] at hq
      rw [if_neg (by omega), if_pos (by omega), if_neg (fun h => h w0)]; exact hq
    rw [if_neg w0] at hq
    by_cases w1 : w = 1
    · rw [if_pos w1] at hq
      rw [if_neg (by omega), if_pos (by omega), if_pos w0]; exact hq
    rw [if_neg w1] at hq
    by_cases wn : w < 0
    · rw [if_pos wn]; exact hq
    · rw [if_neg wn, if_neg (by omega)]; exact hq
  · rw [if_pos q] at hq ⊢
    exact hq
theorem t_both {Q : Int → jS → Prop} (hn : 1 ≤ n) (hm : mln σ) (hA : aPm σ e s W a b c r k) (hq : Q (boV e a b w) σ) : TrI n i_Model_both [jo 1 0, ji w] σ Q := by
  have l12 := mln_at hm 1112 9 (by decide)
  have v0 : ra σ 1112 0 0 = e := hA.2.1 0 (by omega)
  unfold boV at hq
  refine wp_Model_both ⟨by omega, ?_⟩
  rw [hA.1, if_neg (by decide), l12, v0]
  refine ⟨by omega, by omega, ?_⟩
  by_cases q : e = 2
  · rw [if_neg (fun h => h q)] at hq ⊢
    obtain ⟨h1, h2, -⟩ := hA.2.2.2.2.1 q
    refine ⟨by omega, wp_Model_isIn ?_⟩
    rw [h1, h2]
    by_cases w0 : w = 0
    · rw [if_pos w0] at hq
      rw [if_neg (by omega), if_neg (by omega), if_neg (by decide), if_neg (fun h => h w0)]; exact hq
    rw [if_neg w0] at hq
    by_cases w1 : w = 1
    · rw [if_pos w1] at hq
      rw [if_neg (by omega), if_neg (by omega), if_neg (by decide), if_pos w0]; exact hq
    rw [if_neg w1] at hq
    by_cases wn : w < 0
    · rw [if_pos wn, if_pos rfl]; exact hq
    · rw [if_neg wn, if_pos (by omega), if_pos rfl]; exact hq
  · rw [if_pos q] at hq ⊢
    exact hq
end ZAu
