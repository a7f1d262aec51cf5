/-! The class lays a row of things, as a whole. -/
section ZB2
variable {n : Nat} {σ : jS} {g : zH} {N : Int} {β : List (Int × Int)} {x u t o : Int} {vs : Int → Int} {r : List Int}
theorem c_popOpen {Q : Int → jS → Prop} {a : Int} {P : List Int} (h : cln σ) (e1 : rs σ 9012 0 = ((a :: P).length : Nat)) (e2 : stk (ra σ 9008 0) (a :: P)) (hP : P.length < 2048) (hq : Q a (ws σ 9012 0 (P.length : Nat))) : TrI n i_Terms_popOpen [jo 9 0] σ Q := by
  have l8 := cln_at h 9008 0 2048 (by decide)
  have e3 : ((a :: P).length : Nat) - (1 : Int) = (P.length : Nat) := by rw [List.length_cons]; omega
  refine wp_Terms_popOpen ⟨by omega, ?_⟩
  rw [if_pos (by rw [e1, List.length_cons]; omega), e1, e3]
  refine ⟨⟨by omega, by omega⟩, fun s e => ?_⟩
  rw [e]
  have r1 : rs (ws σ 9012 0 (P.length : Nat)) 9012 0 = (P.length : Nat) := by rw [rs_ws, if_pos ⟨rfl, rfl⟩]
  have r2 : ra (ws σ 9012 0 (P.length : Nat)) 9008 0 (P.length : Nat) = a := e2.1
  rw [r1, r2]
  exact ⟨by show 0 ≤ rl σ 9008 0; omega, by omega, by show _ < rl σ 9008 0; omega, hq⟩
theorem c_b65 {Q : Int → jS → Prop} {p : Int} {pile : List Int} (hn : 3 ≤ n) (h : cT σ g N β) (ht : 0 ≤ t ∧ t < 104) (hp3 : pN t ≤ pile.length) (hN : N + 1 ≤ 40000) (hpl : pile.length ≤ 1000) (hpr : ∀ n, n ∈ pile → 0 ≤ n ∧ n < N) (hi : i32 (p + (-1)))
    (hq : ∀ σ2, cT σ2 (gset g N t (pile.take (pN t))) (N + 1) β → cq bF σ σ2 → ra σ2 9010 0 = ra σ 9010 0 → stk (ra σ2 9008 0) (N :: pile.drop (pN t)) → rs σ2 9012 0 = ((N :: pile.drop (pN t)).length : Nat) → J n c_Terms_build (some .int) 24 [some (jo 9 0), some (jo 0 o), none, some (ji (p + (-1))), none, none, none] [] σ2 (qI Q)) :
    ∀ (j k : Nat) (σ1 : jS), k + j = pN t → mkd bF σ σ1 N t k (pile.take (pN t)) → ra σ1 9010 0 = ra σ 9010 0 → stk (ra σ1 9008 0) (pile.drop k) → rs σ1 9012 0 = ((pile.drop k).length : Nat) → J n c_Terms_build (some .int) 65 [some (jo 9 0), some (jo 0 o), none, some (ji p), some (ji t), some (ji N), some (ji (k : Nat))] [] σ1 (qI Q) := by
  have hN0 := h.1.2.2.2.2.1
  have htn : ¬ t = 104 := by omega
  intro j
  induction j with
  | zero =>
    intro k σ1 hk m a10 hst htop
    have ek : k = pN t := by omega
    refine wp_Terms_build_65 ⟨by omega, c_fparts ht.1 (by omega) ?_⟩
    rw [if_neg htn, if_pos (by omega)]
    have hl := h.1.1.cq m.1
    have hlen : (pile.drop k).length = pile.length - k := List.length_drop
    refine ⟨by omega, c_pushOpen hl (by omega) (by omega) ⟨hi, ?_⟩⟩
    rw [htop]
    have f : sq [(9008, 0), (9012, 0)] σ1 (ws (wa σ1 9008 0 ((pile.drop k).length : Nat) N) 9012 0 (((pile.drop k).length : Nat) + 1)) := ((sq.rf _ σ1).pwa 9008 0 _ _ (by decide)).pws 9012 0 _ (by decide)
    have hps : ∀ i, i < pN t → 0 ≤ (pile.take (pN t)).getD i 0 ∧ (pile.take (pN t)).getD i 0 < N := fun i hi => by
      have hlen : i < (pile.take (pN t)).length := by simp; omega
      have : (pile.take (pN t)).getD i 0 ∈ pile := by
        show ((pile.take (pN t))[i]?).getD 0 ∈ pile
        rw [List.getElem?_eq_getElem hlen]
        exact List.mem_of_mem_take (List.getElem_mem hlen)
      exact hpr _ this
    have hc : cT σ1 (gset g N t (pile.take (pN t))) (N + 1) β := by
      refine mkd_cT h ?_ (Or.inr ht) hps hN (by rw [if_neg (by omega)]; exact h.1.2.2.2.2.2.2.1)
      rw [if_neg (by omega), if_neg (by omega), if_neg (by omega), ← ek]
      rw [← ek] at m
      exact m
    refine hq _ (hc.sq f (by decide)) (m.1.tr (f.cq (by decide))) (by rw [f.nraf 9010 0 (by decide)]; exact a10) ?_ ?_
    · rw [ek] at hst ⊢
      exact stk_up hst
    · rw [rs_ws, if_pos ⟨rfl, rfl⟩, ek, List.length_cons]; omega
  | succ j ih =>
    intro k σ1 hk m a10 hst htop
    have hkl : k < pile.length := by omega
    have hdr : pile.drop k = pile[k] :: pile.drop (k + 1) := List.drop_eq_getElem_cons hkl
    rw [hdr] at hst htop
    have hl := h.1.1.cq m.1
    have hlen : (pile.drop (k + 1)).length = pile.length - (k + 1) := List.length_drop
    have p3 : pN t ≤ 3 := by unfold pN; split <;> omega
    refine wp_Terms_build_65 ⟨by omega, c_fparts ht.1 (by omega) ?_⟩
    rw [if_neg htn, if_neg (by omega)]
    refine ⟨by omega, c_popOpen hl htop hst (by omega) ?_⟩
    have f : sq [(9012, 0)] σ1 (ws σ1 9012 0 ((pile.drop (k + 1)).length : Nat)) := (sq.rf _ σ1).pws 9012 0 _ (by decide)
    obtain ⟨m1, m2, m3, m4, m5, m6, m7, m8⟩ := m
    refine c_setPart0 (N := N + 1) (k := k) (by rw [f.nrs 9000 0 (by decide)]; exact m2) hN (by rw [f.nrl 9005 0]; omega) hN0 (by omega) (by omega) ⟨⟨by omega, by omega⟩, ?_⟩
    generalize hs2 : ws σ1 9012 0 ((pile.drop (k + 1)).length : Nat) = s2 at f
    have f2 : sq [(9005, 0)] s2 (wa s2 9005 0 (N * 3 + ((k : Nat) : Int)) pile[k]) := (sq.rf _ s2).pwa 9005 0 _ _ (by decide)
    have a5 : ra (wa s2 9005 0 (N * 3 + ((k : Nat) : Int)) pile[k]) 9005 0 = upI (ra σ1 9005 0) (N * 3 + ((k : Nat) : Int)) pile[k] := by
      rw [← hs2]; rfl
    refine ih (k + 1) _ (by omega) ⟨(m1.tr (f.cq (by decide))).tr (f2.cq (by decide)), ?_, ?_, fun i i0 i1 => ?_, ?_, fun i i0 i1 => ?_, fun i hi => ?_, ?_⟩ ?_ ?_ ?_
    · rw [f2.nrs 9000 0 (by decide), f.nrs 9000 0 (by decide)]; exact m2
    · rw [f2.nrl 9003 0, f2.nrl 9004 0, f2.nrl 9005 0, f.nrl 9003 0, f.nrl 9004 0, f.nrl 9005 0]; exact m3
    · rw [f2.nraf 9003 0 (by decide), f.nraf 9003 0 (by decide)]; exact m4 i i0 i1
    · rw [f2.nraf 9003 0 (by decide), f.nraf 9003 0 (by decide)]; exact m5
    · rw [a5]
      unfold upI
      rw [if_neg (by omega)]
      exact m6 i i0 i1
    · rw [a5]
      unfold upI
      by_cases q : i = k
      · rw [if_pos (by omega), q]
        show _ = ((pile.take (pN t))[k]?).getD 0
        rw [List.getElem?_take, if_pos (by omega), List.getElem?_eq_getElem hkl]
        rfl
      · rw [if_neg (by omega)]
        exact m7 i (by omega)
    · exact (m8.sq f (by decide)).sq f2 (by decide)
    · rw [f2.nraf 9010 0 (by decide), f.nraf 9010 0 (by decide)]; exact a10
    · rw [f2.nraf 9008 0 (by decide), f.nraf 9008 0 (by decide)]; exact hst.2
    · rw [f2.nrs 9012 0 (by decide), ← hs2, rs_ws, if_pos ⟨rfl, rfl⟩]
/-- the rest l of the row has been laid -/
def bst (σ σ1 : jS) (g : zH) (N : Int) (vs : Int → Int) (β : List (Int × Int)) (l : List Int) : Prop :=
  cT σ1 (layR l g N vs).1 (layR l g N vs).2.1 β ∧ cV σ1 (layR l g N vs).2.2.1 ∧ cq bF σ σ1 ∧ stk (ra σ1 9008 0) (layR l g N vs).2.2.2 ∧ rs σ1 9012 0 = ((layR l g N vs).2.2.2.length : Nat) ∧ lok g N vs l (layR l g N vs).1 (layR l g N vs).2.1 (layR l g N vs).2.2.1 (layR l g N vs).2.2.2
theorem c_b24 {Q : Int → jS → Prop} (hn : 5 ≤ n) (h : cT σ g N β) (hf : fT σ o r) (hth : ∀ t, t ∈ r → thg t) (hT : Typ r) (hN : N + (r.length : Nat) ≤ 40000) (hz : zu g N + unu vs ≤ 20000) (hrl : r.length ≤ 1000)
    (hq : ∀ σ1, cT σ1 (layR r g N vs).1 (layR r g N vs).2.1 β → cV σ1 (layR r g N vs).2.2.1 → cq bF σ σ1 → lok g N vs r (layR r g N vs).1 (layR r g N vs).2.1 (layR r g N vs).2.2.1 (layR r g N vs).2.2.2 → Q ((layR r g N vs).2.2.2.headD 0) σ1) :
    ∀ (j : Nat) (σ1 : jS), j ≤ r.length → bst σ σ1 g N vs β (r.drop j) → J n c_Terms_build (some .int) 24 [some (jo 9 0), some (jo 0 o), none, some (ji ((j : Nat) - 1)), none, none, none] [] σ1 (qI Q) := by
  intro j
  induction j with
  | zero =>
    intro σ1 hj0 hs
    have e : r.drop 0 = r := rfl
    rw [e] at hs
    refine wp_Terms_build_24 ?_
    rw [if_pos (by omega)]
    have hlen : (layR r g N vs).2.2.2.length = 1 := rdk_uni hs.2.2.2.2.2.2.2.2.2.2.2.2.2.1 hT
    obtain ⟨m1, m2, m3, m4, m5, m6⟩ := hs
    refine ⟨by omega, by omega, ?_⟩
    have hq2 := fun σ1 a b c => hq σ1 a b c m6
    revert m1 m2 m4 m5 hq2
    generalize layR r g N vs = A at hlen
    obtain ⟨g1, N1, vs1, pile⟩ := A
    dsimp only at hlen ⊢
    intro m1 m2 m4 m5 hq2
    cases pile with
    | nil => cases hlen
    | cons a pile =>
      have hp : pile.length = 0 := by simpa using hlen
      refine c_popOpen m1.1.1 m5 m4 (by omega) ?_
      have f : sq [(9012, 0)] σ1 (ws σ1 9012 0 (pile.length : Nat)) := (sq.rf _ σ1).pws 9012 0 _ (by decide)
      exact hq2 _ (m1.sq f (by decide)) (fun v v0 v1 => m2 v v0 v1) (m3.tr (f.cq (by decide)))
  | succ j ih =>
    intro σ1 hj0 hs
    have hjr : j < r.length := by omega
    have hdrop : r.drop j = r[j] :: r.drop (j + 1) := List.drop_eq_getElem_cons hjr
    have hlay : layR (r.drop j) g N vs = lay1 r[j] (layR (r.drop (j + 1)) g N vs) := by
      rw [hdrop]; rfl
    obtain ⟨m1, m2, m3, m4, m5, m6⟩ := hs
    have htj : thg r[j] := hth _ (List.getElem_mem hjr)
    have hpn : pN r[j] ≤ (layR (r.drop (j + 1)) g N vs).2.2.2.length := lay_len hT hjr m6.2.2.2.2.2.2.2.2.1
    have hlok := lok_cons h.1.2.2.2.2.1 m6 htj hpn
    have hlen1 : (r.drop (j + 1)).length = r.length - (j + 1) := List.length_drop
    have hpl : (layR (r.drop (j + 1)) g N vs).2.2.2.length ≤ (r.drop (j + 1)).length := rdk_len m6.2.2.2.2.2.2.2.2.1
    obtain ⟨w1, w2, w3, w4, w5, w6, w7, w8, w9, w10, w11, w12, -, -⟩ := m6
    have e0 : ((j + 1 : Nat) : Int) - 1 = (j : Nat) := by omega
    have e1 : ((j : Nat) : Int) + (-1) = (j : Nat) - 1 := by omega
    have eD : r.getD j 0 = r[j] := by
      show (r[j]?).getD 0 = _
      rw [List.getElem?_eq_getElem hjr]
      rfl
    refine wp_Terms_build_24 ?_
    rw [e0, if_neg (by omega)]
    refine ⟨hf.1, by omega, c_at (hf.cq m3 (by decide)) hjr ?_⟩
    rw [eD]
    have ih2 : ∀ σ2, bst σ σ2 g N vs β (r.drop j) → J n c_Terms_build (some .int) 24 [some (jo 9 0), some (jo 0 o), none, some (ji ((j : Nat) + (-1))), none, none, none] [] σ2 (qI Q) := fun σ2 q => by
      rw [e1]
      exact ih σ2 (by omega) q
    unfold bst at ih2
    revert hlay hlok m1 m2 m4 m5 hpn hpl w1 w2 w3 w4 w5 w6 w7 w8 w9 w10 w11 w12
    generalize layR (r.drop (j + 1)) g N vs = A
    obtain ⟨g1, N1, vs1, pile⟩ := A
    dsimp only
    intro hlay m1 m2 m4 m5 hpn hlok hpl w1 w2 w3 w4 w5 w6 w7 w8 w9 w10 w11 w12
    by_cases q : 0 ≤ r[j]
    · have ec : cc r[j] = r[j] := if_neg (by omega)
      rw [ec, if_pos htj.2]
      have eL1 : lay1 r[j] (g1, N1, vs1, pile) = (gset g1 N1 r[j] (pile.take (pN r[j])), N1 + 1, vs1, N1 :: pile.drop (pN r[j])) := by
        unfold lay1
        rw [if_neg (by omega)]
      rw [eL1] at hlay hlok
      refine ⟨by omega, c_make (by omega) m1 (by omega) (fun σ2 mk => ?_)⟩
      have mk2 : mkd bF σ1 σ2 N1 r[j] 0 (pile.take (pN r[j])) := by
        obtain ⟨k1, k2, k3, k4, k5, k6, k7, k8⟩ := mk.mo
        exact ⟨k1, k2, k3, k4, k5, k6, fun i hi => absurd hi (Nat.not_lt_zero i), k8⟩
      refine c_b65 (by omega) m1 ⟨q, htj.2⟩ hpn (by omega) (by omega) w10 ⟨by omega, by omega⟩ (fun σ3 c1 c2 c3 c4 c5 => ih2 σ3 ?_) (pN r[j]) 0 σ2 (by omega) mk2 (mk.1.nraf 9010 0 (by decide) (by decide)) (by rw [mk.1.nraf 9008 0 (by decide) (by decide)]; exact m4) (by rw [mk.1.nrs 9012 0 (by decide) (by decide)]; exact m5)
      rw [hlay, hdrop]
      exact ⟨c1, fun v v0 v1 => by rw [c3]; exact m2 v v0 v1, m3.tr c2, c4, c5, hlok⟩
    · have ht2 : -26 ≤ r[j] ∧ r[j] < 0 := ⟨htj.1, by omega⟩
      have ec : cc r[j] = 103 - r[j] := if_pos (by omega)
      rw [ec, if_neg (by omega), show 103 - r[j] - 104 = -1 - r[j] by omega]
      have hu : vs1 (-1 - r[j]) = -1 → unu vs1 = unu (upI vs1 (-1 - r[j]) N1) + 1 := fun qv => unu_up (n := N1) (by omega) (by omega) qv (by have := m1.1.2.2.2.2.1; omega)
      refine ⟨by omega, ⟨by omega, by omega⟩, c_unk (by omega) m1 m2 (by omega) (by split <;> omega) ht2 ((w5 _).imp id (fun w => w.1)) (fun σ2 c1 c2 c3 c4 => ?_)⟩
      have hn65 : TrI (n - 1) i_Flat_partsOf [ji (103 - r[j])] σ2 (fun zr3 zs2 => (if zr3 ≤ 0 then 0 ≤ (0 : Int) ∧ TrV (n - 1) i_Terms_pushOpen [jo 9 0, ji (if vs1 (-1 - r[j]) = -1 then N1 else vs1 (-1 - r[j]))] zs2 (fun zs5 => i32 (((j : Nat) : Int) + (-1)) ∧ J n c_Terms_build (some .int) 24 [some (jo 9 0), some (jo 0 o), none, some (ji (((j : Nat) : Int) + (-1))), none, none, none] [] zs5 (qI Q)) else 0 ≤ (0 : Int) ∧ TrI (n - 1) i_Terms_popOpen [jo 9 0] zs2 (fun zr10 zs9 => TrV (n - 1) i_Terms_setPart [jo 9 0, ji (if vs1 (-1 - r[j]) = -1 then N1 else vs1 (-1 - r[j])), ji 0, ji zr10] zs9 (fun zs11 => i32 ((0 : Int) + 1) ∧ J n c_Terms_build (some .int) 65 [some (jo 9 0), some (jo 0 o), none, some (ji (j : Nat)), some (ji (103 - r[j])), some (ji (if vs1 (-1 - r[j]) = -1 then N1 else vs1 (-1 - r[j]))), some (ji (0 + 1))] [] zs11 (qI Q))))) := by
        refine wp_Flat_partsOf ?_
        rw [if_neg (by omega), if_neg (by omega), if_pos (by omega)]
        have hl2 : cln σ2 := m1.1.1.cq c1
        refine ⟨by omega, c_pushOpen hl2 (by omega) (by omega) ⟨⟨by omega, by omega⟩, ih2 _ ?_⟩⟩
        rw [c2, m5]
        generalize hv : (if vs1 (-1 - r[j]) = -1 then N1 else vs1 (-1 - r[j])) = v
        have f : sq [(9008, 0), (9012, 0)] σ2 (ws (wa σ2 9008 0 (pile.length : Nat) v) 9012 0 ((pile.length : Nat) + 1)) := ((sq.rf _ σ2).pwa 9008 0 _ _ (by decide)).pws 9012 0 _ (by decide)
        have hst : stk (ra (ws (wa σ2 9008 0 (pile.length : Nat) v) 9012 0 ((pile.length : Nat) + 1)) 9008 0) (v :: pile) := by
          have : ra (ws (wa σ2 9008 0 (pile.length : Nat) v) 9012 0 ((pile.length : Nat) + 1)) 9008 0 = upI (ra σ2 9008 0) (pile.length : Nat) v := rfl
          rw [this, c3]
          exact stk_up m4
        have htp : rs (ws (wa σ2 9008 0 (pile.length : Nat) v) 9012 0 ((pile.length : Nat) + 1)) 9012 0 = ((v :: pile).length : Nat) := by
          rw [rs_ws, if_pos ⟨rfl, rfl⟩, List.length_cons]; omega
        rw [hlay, hdrop]
        revert hlok
        unfold lay1
        rw [if_pos (by omega)]
        dsimp only
        by_cases qv : vs1 (-1 - r[j]) = -1
        · rw [if_pos qv] at c4 hv
          rw [if_pos qv]
          intro hlok
          rw [← hv] at f hst htp ⊢
          exact ⟨c4.1.sq f (by decide), fun w w0 w1 => by rw [f.nraf 9010 0 (by decide)]; exact c4.2 w w0 w1, (m3.tr c1).tr (f.cq (by decide)), hst, htp, hlok⟩
        · rw [if_neg qv] at c4 hv
          rw [if_neg qv]
          intro hlok
          rw [← hv] at f hst htp ⊢
          exact ⟨c4.1.sq f (by decide), fun w w0 w1 => by rw [f.nraf 9010 0 (by decide)]; exact c4.2 w w0 w1, (m3.tr c1).tr (f.cq (by decide)), hst, htp, hlok⟩
      exact wp_Terms_build_65 ⟨by omega, hn65⟩
/-- a row is laid, with unknowns of its own or with those of what was laid ahead of it; its node is told -/
theorem c_build {Q : Int → jS → Prop} {own : Int} (hn : 6 ≤ n) (h : cT σ g N β) (hf : fT σ o r) (hv : vok g N vs) (hown : own = 0 ∧ cV σ vs ∨ own = 1 ∧ vs = fun _ => -1) (hth : ∀ t, t ∈ r → thg t) (hT : Typ r) (hN : N + (r.length : Nat) ≤ 40000) (hz : zu g N + unu vs ≤ 20000) (hrl : r.length ≤ 1000)
    (hq : ∀ σ1, cT σ1 (layR r g N vs).1 (layR r g N vs).2.1 β → cV σ1 (layR r g N vs).2.2.1 → cq bF σ σ1 → lok g N vs r (layR r g N vs).1 (layR r g N vs).2.1 (layR r g N vs).2.2.1 (layR r g N vs).2.2.2 → Q ((layR r g N vs).2.2.2.headD 0) σ1) : TrI n i_Terms_build [jo 9 0, jo 0 o, ji own] σ Q := by
  have l10 := cln_at h.1.1 9010 0 26 (by decide)
  have main : ∀ σ1, sq [(9010, 0)] σ σ1 → cV σ1 vs → ∀ σ2, σ2 = ws σ1 9012 0 0 → 0 ≤ o ∧ i32 (rs σ2 1 o - 1) ∧ J n c_Terms_build (some .int) 24 [some (jo 9 0), some (jo 0 o), none, some (ji (rs σ2 1 o - 1)), none, none, none] [] σ2 (qI Q) := by
    intro σ1 f1 hV σ2 e2
    have f2 : sq [(9010, 0), (9012, 0)] σ σ2 := by rw [e2]; exact (f1.mo (by decide)).pws 9012 0 _ (by decide)
    have hf2 := hf.sq f2 (by decide)
    have r1 : rs σ2 1 o = (r.length : Nat) := hf2.2.1
    rw [r1]
    refine ⟨hf.1, ⟨by omega, by omega⟩, ?_⟩
    refine c_b24 (σ := σ) (vs := vs) (by omega) h hf hth hT hN hz hrl hq r.length σ2 (Nat.le_refl _) ?_
    rw [List.drop_length]
    exact ⟨h.sq f2 (by decide), fun v v0 v1 => by rw [e2]; exact hV v v0 v1, f2.cq (by decide), trivial, by rw [e2, rs_ws, if_pos ⟨rfl, rfl⟩]; rfl, lok_nil h.1.2.1 hv h.1.2.2.2.2.1⟩
  refine wp_Terms_build ?_
  rcases hown with ⟨e, hV⟩ | ⟨e, hV⟩
  · rw [if_pos e]
    exact ⟨by omega, fun s2 e2 => main σ (sq.rf _ σ) hV s2 e2⟩
  · rw [if_neg (by omega)]
    refine ⟨by omega, by omega, by omega, c_fill rfl (by decide) (by omega) (fun σ1 f1 f2 => ?_)⟩
    exact fun s10 e10 => main σ1 f1 (fun v v0 v1 => by rw [f2 v v0 (by omega), hV]) s10 e10
end ZB2
