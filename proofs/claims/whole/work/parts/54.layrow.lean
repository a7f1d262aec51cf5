/-! The reference lays a row of things, as a whole. -/
theorem rdk_uni {l : List Int} {a b : Nat} (h : rdk l a = some []) (h' : rdk l b = some []) : a = b := by
  have key : ∀ a c : Nat, rdk l a = some [] → rdk l (a + (c + 1)) = some [] → False := by
    intro a c h1 h2
    rw [rdk_add, h1] at h2
    cases h2
  rcases Nat.lt_trichotomy a b with q | q | q
  · exact absurd (by rw [show a + (b - a - 1 + 1) = b by omega]; exact h') (key a (b - a - 1) h)
  · exact q
  · exact absurd (by rw [show b + (a - b - 1 + 1) = a by omega]; exact h) (key b (a - b - 1) h')
theorem rdk_suf {l : List Int} : ∀ {p : List Int} {k : Nat}, rdk (p ++ l) k = some [] → ∃ k', rdk l k' = some [] := by
  intro p
  induction p with
  | nil => intro k h; exact ⟨k, h⟩
  | cons a p ih =>
    intro k h
    cases k with
    | zero => rw [rdk_0] at h; cases h
    | succ k => exact ih (k := k + pN a) h
theorem lay_len {r : List Int} (hT : Typ r) {j : Nat} (hj : j < r.length) {m : Nat} (hm : rdk (r.drop (j + 1)) m = some []) : pN r[j] ≤ m := by
  have h1 : r = r.take j ++ r.drop j := (List.take_append_drop j r).symm
  unfold Typ at hT
  rw [h1] at hT
  obtain ⟨k, hk⟩ := rdk_suf hT
  rw [List.drop_eq_getElem_cons hj] at hk
  cases k with
  | zero => rw [rdk_0] at hk; cases hk
  | succ k =>
    have hk2 : rdk (r.drop (j + 1)) (k + pN r[j]) = some [] := hk
    have := rdk_uni hm hk2
    omega
section ZK
variable {n : Nat} {σ : jS} {g : zH} {N : Int} {β : List (Int × Int)} {x u t : Int} {vs : Int → Int}
/-- the rest l of the row has been laid -/
def lst2 (σ σ1 : jS) (g : zH) (N : Int) (vs : Int → Int) (β : List (Int × Int)) (l : List Int) : Prop :=
  mT σ1 (layR l g N vs).1 (layR l g N vs).2.1 β ∧ mV σ1 (layR l g N vs).2.2.1 ∧ sq lF σ σ1 ∧ kpp σ σ1 N ∧ stk (ra σ1 1037 0) (layR l g N vs).2.2.2 ∧ rs σ1 1038 0 = ((layR l g N vs).2.2.2.length : Nat) ∧ rs σ1 1034 0 + ((layR l g N vs).2.2.2.length : Nat) ≤ rs σ 1034 0 + (l.length : Nat) ∧ lok g N vs l (layR l g N vs).1 (layR l g N vs).2.1 (layR l g N vs).2.2.1 (layR l g N vs).2.2.2
theorem t_lay113 {Q : Int → jS → Prop} {F : Nat} {o fr p : Int} {σ1 : jS} {pile : List Int} (h : mT σ g N β) (ht : 0 ≤ t ∧ t < 104) (hp3 : pN t ≤ pile.length) (hN : N + 1 ≤ 40000) (hp : rs σ 1034 0 + (pile.length : Nat) ≤ 40000) (hpl : pile.length ≤ 1000) (hst : stk (ra σ 1037 0) pile) (hpr : ∀ n, n ∈ pile → 0 ≤ n ∧ n < N) (hi : i32 (p + (-1)))
    (hq : ∀ σ2, mT σ2 (gset g N t (pile.take (pN t))) (N + 1) β → sq [(1028, 0), (1029, 0), (1031, 0), (1033, 0), (1034, 0), (1037, 0), (1038, 0)] σ σ2 → kpp σ σ2 N → stk (ra σ2 1037 0) (N :: pile.drop (pN t)) → rs σ2 1038 0 = ((N :: pile.drop (pN t)).length : Nat) → rs σ2 1034 0 = rs σ 1034 0 + (pN t : Nat) → J n c_Model_layRow (some .int) 12 [some (jo 1 0), some (ja F o), some (ji fr), none, some (ji (p + (-1))), none, none] [] σ2 (qI Q)) :
    ∀ (j k : Nat) (σ1 : jS), k + j = pN t → sq [(1028, 0), (1029, 0), (1031, 0), (1034, 0), (1038, 0)] σ σ1 → ra σ1 1028 0 = upI (ra σ 1028 0) N t → ra σ1 1029 0 = upI (ra σ 1029 0) N (rs σ 1034 0) → rs σ1 1034 0 = rs σ 1034 0 + (k : Nat) → (∀ i, i < rs σ 1034 0 → ra σ1 1031 0 i = ra σ 1031 0 i) → (∀ i : Nat, i < k → ra σ1 1031 0 (rs σ 1034 0 + i) = pile.getD i 0) → rs σ1 1038 0 = (pile.length : Nat) - (k : Nat) → J n c_Model_layRow (some .int) 113 [some (jo 1 0), some (ja F o), some (ji fr), none, some (ji p), some (ji t), some (ji (k : Nat))] [] σ1 (qI Q) := by
  have hpt : ((pN t : Nat) : Int) = t % 4 := by
    unfold pN
    rw [if_neg (by omega)]
    omega
  have h0 := h
  obtain ⟨h1, h2, h3, h4, h5, h6, h7, h8, h9, h10, h11, h12, h13⟩ := h
  have l31 := mln_at h1 1031 40000 (by decide)
  have l37 := mln_at h1 1037 2000 (by decide)
  intro j
  induction j with
  | zero =>
    intro k σ1 hk f1 f2 f3 f4 f5 f6 f7
    refine wp_Model_layRow_113 ⟨ht.1, ?_⟩
    rw [if_pos (by omega)]
    rw [f1.nrl 1037 0, f7, f1.nrs 1033 0 (by decide), h4]
    refine ⟨by omega, by omega, by omega, by omega, fun s4 e4 => ?_⟩
    rw [show rs s4 1038 0 = (pile.length : Nat) - (k : Nat) by rw [e4]; exact f7]
    refine ⟨⟨by omega, by omega⟩, fun s8 e8 => ?_⟩
    rw [show rs s8 1033 0 = N by rw [e8, e4]; show rs σ1 1033 0 = N; rw [f1.nrs 1033 0 (by decide)]; exact h4]
    refine ⟨⟨by omega, by omega⟩, fun s10 e10 => ⟨hi, ?_⟩⟩
    have g1 : sq [(1028, 0), (1029, 0), (1031, 0), (1033, 0), (1034, 0), (1037, 0), (1038, 0)] σ s10 := by
      rw [e10, e8, e4]
      exact (((f1.mo (by decide)).pwa 1037 0 _ _ (by decide)).pws 1038 0 _ (by decide)).pws 1033 0 _ (by decide)
    have a28 : ra s10 1028 0 = ra σ1 1028 0 := by rw [e10, e8, e4]; rfl
    have a29 : ra s10 1029 0 = ra σ1 1029 0 := by rw [e10, e8, e4]; rfl
    have a31 : ra s10 1031 0 = ra σ1 1031 0 := by rw [e10, e8, e4]; rfl
    have a34 : rs s10 1034 0 = rs σ1 1034 0 := by rw [e10, e8, e4]; rfl
    have a33 : rs s10 1033 0 = N + 1 := by rw [e10, rs_ws, if_pos ⟨rfl, rfl⟩]
    have a38 : rs s10 1038 0 = (pile.length : Nat) - (k : Nat) + 1 := by
      rw [e10, e8, rs_ws, if_neg (by decide), rs_ws, if_pos ⟨rfl, rfl⟩]
    have a37 : ra s10 1037 0 = upI (ra σ1 1037 0) ((pile.length : Nat) - (k : Nat)) N := by
      rw [e10, e8, e4]; rfl
    have ek : k = pN t := by omega
    refine hq s10 (mT_con h0 ht hN (fun i hi => ?_) (by omega) g1 a33 (by rw [a28, f2]) (by rw [a29, f3]) (by rw [a34, f4, ek]) (fun i hi => by rw [a31]; exact f5 i hi) (fun i hi => by
        rw [a31, f6 i (by omega)]
        show _ = ((pile.take (pN t))[i]?).getD 0
        rw [List.getElem?_take, if_pos hi]
        rfl)) g1 (fun m m0 m1 => ?_) ?_ ?_ ?_
    · have hlen : i < (pile.take (pN t)).length := by simp; omega
      have : (pile.take (pN t)).getD i 0 ∈ pile := by
        show ((pile.take (pN t))[i]?).getD 0 ∈ pile
        rw [List.getElem?_eq_getElem hlen]
        exact List.mem_of_mem_take (List.getElem_mem hlen)
      exact hpr _ this
    · rw [a29, f3]
      unfold upI
      rw [if_neg (by omega)]
    · rw [a37, f1.nraf 1037 0 (by decide)]
      have e : ((pile.length : Nat) : Int) - (k : Nat) = ((pile.drop (pN t)).length : Nat) := by rw [List.length_drop]; omega
      rw [e]
      exact stk_up (stk_drop _ hst)
    · rw [a38, List.length_cons, List.length_drop]; omega
    · rw [a34, f4, ek]
  | succ j ih =>
    intro k σ1 hk f1 f2 f3 f4 f5 f6 f7
    refine wp_Model_layRow_113 ⟨ht.1, ?_⟩
    rw [if_neg (by omega), f7]
    refine ⟨by omega, ⟨by omega, by omega⟩, fun s14 e14 => ?_⟩
    have b38 : rs s14 1038 0 = (pile.length : Nat) - (k : Nat) - 1 := by rw [e14, rs_ws, if_pos ⟨rfl, rfl⟩]
    have g14 : sq [(1028, 0), (1029, 0), (1031, 0), (1034, 0), (1038, 0)] σ s14 := by rw [e14]; exact f1.pws 1038 0 _ (by decide)
    have b34 : rs s14 1034 0 = rs σ 1034 0 + (k : Nat) := by rw [e14]; exact f4
    rw [b38, b34, g14.nrl 1031 0, g14.nrl 1037 0, g14.nraf 1037 0 (by decide)]
    refine ⟨by omega, by omega, by omega, by omega, by omega, by omega, fun s19 e19 => ?_⟩
    have b34' : rs s19 1034 0 = rs σ 1034 0 + (k : Nat) := by rw [e19]; exact b34
    rw [b34']
    refine ⟨⟨by omega, by omega⟩, fun s23 e23 => ⟨⟨by omega, by omega⟩, ?_⟩⟩
    have gk := stk_get hst k (by omega)
    have a31 : ra s23 1031 0 = upI (ra σ1 1031 0) (rs σ 1034 0 + (k : Nat)) (pile.getD k 0) := by
      rw [e23, e19, e14]
      show upI (ra σ1 1031 0) _ _ = _
      rw [← gk, show ((pile.length : Nat) : Int) - (k : Nat) - 1 = (pile.length : Nat) - 1 - (k : Nat) by omega]
    refine ih (k + 1) s23 (by omega) (by rw [e23, e19]; exact (g14.pwa 1031 0 _ _ (by decide)).pws 1034 0 _ (by decide)) (by rw [e23, e19, e14]; exact f2) (by rw [e23, e19, e14]; exact f3) (by rw [e23, rs_ws, if_pos ⟨rfl, rfl⟩]; omega) (fun i hi => ?_) (fun i hi => ?_) (by rw [e23, e19]; show rs s14 1038 0 = _; rw [b38]; omega)
    · rw [a31]
      unfold upI
      rw [if_neg (by omega)]
      exact f5 i hi
    · rw [a31]
      unfold upI
      by_cases q : i = k
      · rw [if_pos (by omega), q]
      · rw [if_neg (by omega)]
        exact f6 i (by omega)
theorem t_lay12 {Q : Int → jS → Prop} {F : Nat} {o fr : Int} {r : List Int} (hn : 1 ≤ n) (h : mT σ g N β) (hv : vok g N vs) (hj : jt F = 0) (hjm : jmv F = false) (hFl : (lF.contains (F, o)) = false) (hfr : 0 ≤ fr) (hln : fr + (r.length : Nat) ≤ rl σ F o) (hr : ∀ i : Nat, i < r.length → ra σ F o (fr + i) = r.getD i 0) (hth : ∀ t, t ∈ r → thg t) (hT : Typ r) (hN : N + (r.length : Nat) ≤ 40000) (hp : rs σ 1034 0 + (r.length : Nat) ≤ 40000) (hz : zu g N + unu vs ≤ 20000) (hrl : r.length ≤ 1000) (hfm : fr ≤ 1000000)
    (hq : ∀ σ1, lst2 σ σ1 g N vs β r → Q ((layR r g N vs).2.2.2.headD 0) σ1) :
    ∀ (j : Nat) (σ1 : jS), j ≤ r.length → lst2 σ σ1 g N vs β (r.drop j) → J n c_Model_layRow (some .int) 12 [some (jo 1 0), some (ja F o), some (ji fr), none, some (ji (fr + (j : Nat) - 1)), none, none] [] σ1 (qI Q) := by
  intro j
  induction j with
  | zero =>
    intro σ1 hj0 hs
    have e : r.drop 0 = r := rfl
    rw [e] at hs
    have l37 := mln_at hs.1.1 1037 2000 (by decide)
    refine wp_Model_layRow_12 ?_
    rw [if_pos (by omega)]
    refine ⟨by omega, by omega, by omega, ?_⟩
    have hlen : (layR r g N vs).2.2.2.length = 1 := rdk_uni hs.2.2.2.2.2.2.2.2.2.2.2.2.2.2.2.1 hT
    have hst := hs.2.2.2.2.1
    have hq2 := hq σ1 hs
    generalize (layR r g N vs).2.2.2 = pile at hlen hst hq2
    cases pile with
    | nil => cases hlen
    | cons a pile =>
      cases pile with
      | nil =>
        have h1 : ra σ1 1037 0 0 = a := hst.1
        rw [h1]
        exact hq2
      | cons b pile => simp at hlen
  | succ j ih =>
    intro σ1 hj0 hs
    have hjr : j < r.length := by omega
    have hdrop : r.drop j = r[j] :: r.drop (j + 1) := List.drop_eq_getElem_cons hjr
    have hlay : layR (r.drop j) g N vs = lay1 r[j] (layR (r.drop (j + 1)) g N vs) := by
      rw [hdrop]; rfl
    have hs0 := hs
    obtain ⟨m1, m2, m3, m4, m5, m6, m7, m8⟩ := hs
    have htj : thg r[j] := hth _ (List.getElem_mem hjr)
    have hpn : pN r[j] ≤ (layR (r.drop (j + 1)) g N vs).2.2.2.length := lay_len hT hjr m8.2.2.2.2.2.2.2.2.1
    have hlok := lok_cons h.2.2.2.2.1 m8 htj hpn
    have hx : ra σ1 F o (fr + (j : Nat)) = r[j] := by
      rw [m3.nra F o _ hFl, hr j hjr]
      show (r[j]?).getD 0 = _
      rw [List.getElem?_eq_getElem hjr]
      rfl
    have hlen1 : (r.drop (j + 1)).length = r.length - (j + 1) := List.length_drop
    have hlen0 : (r.drop j).length = r.length - j := List.length_drop
    have hN1 := m8.2.1
    have hz1 : zu (layR (r.drop (j + 1)) g N vs).1 (layR (r.drop (j + 1)) g N vs).2.1 + unu (layR (r.drop (j + 1)) g N vs).2.2.1 = zu g N + unu vs := m8.2.2.2.2.2.2.2.2.2.2.2.1
    have hpl : (layR (r.drop (j + 1)) g N vs).2.2.2.length ≤ (r.drop (j + 1)).length := rdk_len m8.2.2.2.2.2.2.2.2.1
    have hpr := m8.2.2.2.2.2.2.2.2.2.1
    have hvok := m8.2.2.2.2.1
    have l36 := mln_at m1.1 1036 26 (by decide)
    have l37 := mln_at m1.1 1037 2000 (by decide)
    have l28 := mln_at m1.1 1028 40000 (by decide)
    have l29 := mln_at m1.1 1029 40000 (by decide)
    have h33 := m1.2.2.2.1
    have hN0 := m1.2.2.2.2.1
    have e0 : fr + ((j + 1 : Nat) : Int) - 1 = fr + (j : Nat) := by omega
    have e1 : fr + (j : Nat) + (-1) = fr + (j : Nat) - 1 := by omega
    refine wp_Model_layRow_12 ?_
    rw [e0, if_neg (by omega), hx, m3.nrl F o]
    refine ⟨hj, by omega, by omega, ?_⟩
    -- the state so far, by short names
    revert hlay hlok m1 m2 m3 m4 m5 m6 m7 hpn hz1 hpl hpr hvok h33 hN0 hN1
    generalize hA : layR (r.drop (j + 1)) g N vs = A
    obtain ⟨g1, N1, vs1, pile⟩ := A
    dsimp only
    intro hlay m1 m2 m3 m4 m5 m6 m7 hpn hlok hN1 hz1 hpl hpr hvok h33 hN0
    have ih2 : ∀ σ2, lst2 σ σ2 g N vs β (r.drop j) → J n c_Model_layRow (some .int) 12 [some (jo 1 0), some (ja F o), some (ji fr), none, some (ji (fr + (j : Nat) + (-1))), none, none] [] σ2 (qI Q) := fun σ2 q => by
      rw [e1]
      exact ih σ2 (by omega) q
    by_cases q : 0 ≤ r[j]
    · rw [if_pos q]
      rw [l28, h33]
      refine ⟨by omega, by omega, by omega, by omega, fun s9 e9 => ?_⟩
      have f9 : sq [(1028, 0), (1029, 0), (1031, 0), (1034, 0), (1038, 0)] σ1 s9 := by rw [e9]; exact (sq.rf _ σ1).pwa 1028 0 _ _ (by decide)
      rw [f9.nrl 1029 0, f9.nrs 1033 0 (by decide), l29, h33]
      refine ⟨by omega, by omega, by omega, fun s13 e13 => ?_⟩
      have f13 : sq [(1028, 0), (1029, 0), (1031, 0), (1034, 0), (1038, 0)] σ1 s13 := by rw [e13]; exact f9.pwa 1029 0 _ _ (by decide)
      refine t_lay113 (σ := σ1) (σ1 := σ1) (pile := pile) m1 ⟨q, htj.2⟩ hpn (by omega) (by omega) (by omega) m5 hpr ⟨by omega, by omega⟩ (fun σ2 c1 c2 c3 c4 c5 c6 => ih2 σ2 ?_) (pN r[j]) 0 s13 (by omega) f13 (by rw [e13, e9]; rfl) (by rw [e13, e9]; rfl) (by rw [e13, e9]; show rs σ1 1034 0 = _; omega) (fun i _ => by rw [e13, e9]; rfl) (fun i hi => absurd hi (Nat.not_lt_zero i)) (by rw [e13, e9]; show rs σ1 1038 0 = _; omega)
      have eL : layR (r.drop j) g N vs = (gset g1 N1 r[j] (pile.take (pN r[j])), N1 + 1, vs1, N1 :: pile.drop (pN r[j])) := by
        rw [hlay]
        unfold lay1
        rw [if_neg (by omega)]
      have eL1 : lay1 r[j] (g1, N1, vs1, pile) = (gset g1 N1 r[j] (pile.take (pN r[j])), N1 + 1, vs1, N1 :: pile.drop (pN r[j])) := by
        rw [← hlay, eL]
      rw [eL1, ← hdrop] at hlok
      unfold lst2
      rw [eL]
      refine ⟨c1, ?_, m3.tr (c2.mo (by decide)), ?_, c4, c5, ?_, hlok⟩
      · unfold mV
        rw [c2.nraf 1036 0 (by decide)]
        exact m2
      · exact fun m m0 m1' => by
          have : N ≤ N1 := by
            have := m8.1
            rw [hA] at this
            exact this
          rw [c3 m m0 (by omega)]
          exact m4 m m0 m1'
      · rw [c6, List.length_cons, List.length_drop]
        omega
    · rw [if_neg q]
      have v0 : 0 ≤ -1 - r[j] ∧ -1 - r[j] < 26 := by unfold thg at htj; omega
      have hNle : N ≤ N1 := by
        have := m8.1
        rw [hA] at this
        exact this
      rw [m2 _ v0.1 v0.2, l36]
      refine ⟨⟨by omega, by omega⟩, by omega, by omega, by omega, by omega, ?_⟩
      -- the pile takes the unknown
      have psh57 : ∀ (s1 : jS) (g2 : zH) (N2 : Int) (vs2 : Int → Int), mT s1 g2 N2 β → mV s1 vs2 → sq lF σ s1 → kpp σ s1 N → stk (ra s1 1037 0) pile → rs s1 1038 0 = (pile.length : Nat) → rs s1 1034 0 = rs σ1 1034 0 → layR (r.drop j) g N vs = (g2, N2, vs2, vs2 (-1 - r[j]) :: pile) → J n c_Model_layRow (some .int) 57 [some (jo 1 0), some (ja F o), some (ji fr), none, some (ji (fr + (j : Nat))), none, some (ji (-1 - r[j]))] [] s1 (qI Q) := by
        intro s1 g2 N2 vs2 d1 d2 d3 d4 d5 d6 d7 d8
        have l36' := mln_at d1.1 1036 26 (by decide)
        have l37' := mln_at d1.1 1037 2000 (by decide)
        have eL1 : lay1 r[j] (g1, N1, vs1, pile) = (g2, N2, vs2, vs2 (-1 - r[j]) :: pile) := by rw [← hlay, d8]
        rw [eL1, ← hdrop] at hlok
        refine wp_Model_layRow_57 ⟨by omega, by omega, by omega, v0.1, by omega, by omega, by omega, fun s6 e6 => ?_⟩
        have f6 : sq [(1037, 0), (1038, 0)] s1 s6 := by rw [e6]; exact (sq.rf _ s1).pwa 1037 0 _ _ (by decide)
        rw [show rs s6 1038 0 = (pile.length : Nat) by rw [e6]; exact d6]
        refine ⟨⟨by omega, by omega⟩, fun s10 e10 => ⟨⟨by omega, by omega⟩, ih2 s10 ?_⟩⟩
        have f10 : sq [(1037, 0), (1038, 0)] s1 s10 := by rw [e10]; exact f6.pws 1038 0 _ (by decide)
        unfold lst2
        rw [d8]
        refine ⟨d1.sq f10 (by decide), ?_, d3.tr (f10.mo (by decide)), d4.tr (kpp.of f10 (by decide)) (Int.le_refl _), ?_, ?_, ?_, hlok⟩
        · unfold mV
          rw [f10.nraf 1036 0 (by decide)]
          exact d2
        · have : ra s10 1037 0 = upI (ra s1 1037 0) (pile.length : Nat) (vs2 (-1 - r[j])) := by
            rw [e10, e6, d6, d2 _ v0.1 v0.2]
            rfl
          dsimp only
          rw [this]
          exact stk_up d5
        · rw [e10, rs_ws, if_pos ⟨rfl, rfl⟩]
          dsimp only
          rw [List.length_cons]; omega
        · rw [f10.nrs 1034 0 (by decide), d7]
          dsimp only at m7 ⊢
          rw [List.length_cons]; omega
      by_cases qv : vs1 (-1 - r[j]) = -1
      · rw [if_neg (fun w => w qv)]
        have hu := unu_up (n := N1) v0.1 v0.2 qv (by omega)
        refine ⟨hn, hjm, t_unknown m1 (by omega) (by omega) (fun s23 c1 c2 => ?_)⟩
        rw [c2.nrl 1036 0, l36]
        refine ⟨by omega, by omega, fun s25 e25 => ?_⟩
        have f25 : sq lF σ1 s25 := by rw [e25]; exact (c2.mo (by decide)).pwa 1036 0 _ _ (by decide)
        have f25' : sq [(1036, 0)] s23 s25 := by rw [e25]; exact (sq.rf _ s23).pwa 1036 0 _ _ (by decide)
        refine psh57 s25 (gset g1 N1 (-1) []) (N1 + 1) (upI vs1 (-1 - r[j]) N1) (c1.sq f25' (by decide)) ?_ (m3.tr f25) (m4.tr (kpp.tr (kpp.of c2 (by decide)) (kpp.of f25' (by decide)) (Int.le_refl _)) (Int.le_refl _)) ?_ ?_ ?_ ?_
        · intro v w1 w2
          have : ra s25 1036 0 = upI (ra σ1 1036 0) (-1 - r[j]) N1 := by
            rw [e25]
            show upI (ra s23 1036 0) _ _ = _
            rw [c2.nraf 1036 0 (by decide)]
          rw [this]
          unfold upI
          rw [m2 v w1 w2]
        · rw [f25'.nraf 1037 0 (by decide), c2.nraf 1037 0 (by decide)]
          exact m5
        · rw [f25'.nrs 1038 0 (by decide), c2.nrs 1038 0 (by decide)]
          exact m6
        · rw [f25'.nrs 1034 0 (by decide), c2.nrs 1034 0 (by decide)]
        · rw [hlay]
          unfold lay1
          rw [if_pos (by omega)]
          dsimp only
          rw [if_pos qv]
          congr 3
          unfold upI
          rw [if_pos rfl]
      · rw [if_pos qv]
        refine psh57 σ1 g1 N1 vs1 m1 m2 m3 m4 m5 m6 rfl ?_
        rw [hlay]
        unfold lay1
        rw [if_pos (by omega)]
        dsimp only
        rw [if_neg qv]
/-- a row is laid; its node is told -/
theorem t_layRow {Q : Int → jS → Prop} {F : Nat} {o fr : Int} {r : List Int} (hn : 1 ≤ n) (h : mT σ g N β) (hV : mV σ vs) (hv : vok g N vs) (hj : jt F = 0) (hjm : jmv F = false) (hFl : (lF.contains (F, o)) = false) (hfr : 0 ≤ fr) (hln : fr + (r.length : Nat) ≤ rl σ F o) (hr : ∀ i : Nat, i < r.length → ra σ F o (fr + i) = r.getD i 0) (hth : ∀ t, t ∈ r → thg t) (hT : Typ r) (hN : N + (r.length : Nat) ≤ 40000) (hp : rs σ 1034 0 + (r.length : Nat) ≤ 40000) (hz : zu g N + unu vs ≤ 20000) (hrl : r.length ≤ 1000) (hfm : fr ≤ 1000000)
    (hq : ∀ σ1, lst2 σ σ1 g N vs β r → Q ((layR r g N vs).2.2.2.headD 0) σ1) : TrI n i_Model_layRow [jo 1 0, ja F o, ji fr, ji (r.length : Nat)] σ Q := by
  refine wp_Model_layRow ⟨by omega, fun s2 e2 => ⟨⟨by omega, by omega⟩, ⟨by omega, by omega⟩, ?_⟩⟩
  have f2 : sq lF σ s2 := by rw [e2]; exact (sq.rf _ σ).pws 1038 0 _ (by decide)
  refine t_lay12 (σ := σ) (vs := vs) hn h hv hj hjm hFl hfr hln hr hth hT hN hp hz hrl hfm hq r.length s2 (Nat.le_refl _) ?_
  rw [List.drop_length]
  refine ⟨h.sq (by rw [e2]; exact (sq.rf [(1038, 0)] σ).pws 1038 0 _ (by decide)) (by decide), fun v w1 w2 => by rw [e2]; exact hV v w1 w2, f2, fun m _ _ => by rw [e2]; rfl, trivial, by rw [e2, rs_ws, if_pos ⟨rfl, rfl⟩]; rfl, by rw [e2]; show rs σ 1034 0 + 0 ≤ rs σ 1034 0 + 0; omega, lok_nil h.2.1 hv h.2.2.2.2.1⟩
theorem t_newUnknowns {Q : jS → Prop} (hm : mln σ) (hq : ∀ σ1, sq [(1036, 0)] σ σ1 → mV σ1 (fun _ => -1) → Q σ1) : TrV n i_Model_newUnknowns [jo 1 0] σ Q := by
  have loop : ∀ (j k : Nat) (σ1 : jS), k + j = 26 → sq [(1036, 0)] σ σ1 → (∀ v : Int, 0 ≤ v → v < (k : Nat) → ra σ1 1036 0 v = -1) → J n c_Model_newUnknowns none 2 [some (jo 1 0), some (ji (k : Nat))] [] σ1 (qV Q) := by
    intro j
    induction j with
    | zero =>
      intro k σ1 hk f1 f2
      refine wp_Model_newUnknowns_2 ?_
      rw [if_pos (by omega)]
      exact hq σ1 f1 (fun v w1 w2 => f2 v w1 (by omega))
    | succ j ih =>
      intro k σ1 hk f1 f2
      have l36 := mln_at (hm.sq f1) 1036 26 (by decide)
      refine wp_Model_newUnknowns_2 ?_
      rw [if_neg (by omega)]
      refine ⟨by omega, by omega, by omega, by omega, fun s3 e3 => ⟨⟨by omega, by omega⟩, ?_⟩⟩
      refine ih (k + 1) s3 (by omega) (by rw [e3]; exact f1.pwa 1036 0 _ _ (by decide)) (fun v w1 w2 => ?_)
      rw [e3]
      show upI (ra σ1 1036 0) (k : Nat) (-1) v = -1
      unfold upI
      by_cases q : v = (k : Nat)
      · rw [if_pos q]
      · rw [if_neg q]; exact f2 v w1 (by omega)
  exact wp_Model_newUnknowns (loop 26 0 σ (by omega) (sq.rf _ σ) (fun v w1 w2 => absurd w2 (by omega)))
end ZK
