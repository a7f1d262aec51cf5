/-! How many values: the count, the class. -/
noncomputable def vf (T : zT) (may : Int) : Nat → Option (List Int → Int)
  | 0 => none
  | d + 1 => some (vl T may d)
/-- the class while it counts -/
def cvA (σ : jS) (T : zT) (M : zM) (may : Int) (g : zH) (N : Int) (β : List (Int × Int)) : Prop := cZ σ T M ∧ cT σ g N β ∧ cvK σ T may
def kvq (d : Nat) (σ σ' : jS) : Prop := kq vFp σ σ' ∧ ∀ z : Int, 4 * ((d : Nat) : Int) + 4 ≤ z → ra σ' 7012 0 z = ra σ 7012 0 z
/-- GIVENS that may be taken have no letters in their NEEDS alone -/
def vNo (T : zT) (may : Int) : Prop := ∀ k : Int, 0 ≤ k → k < tG T → tb may k = true → ∀ i : Nat, i ≤ tN T k → ∀ t, t ∈ tR T k i → t < 0 → t ∈ tR T k 0
def cntC (T : zT) (M : zM) (may : Int) (d m : Nat) : Prop := ∀ (n : Nat) (σ : jS) (g : zH) (N : Int) (β : List (Int × Int)) (x : Int) (L r : List Int) (Q : Int → jS → Prop), m ≤ n → cvA σ T M may g N β → vOK g N β x L r → r.length * 12 ^ d ≤ 20736 → L.length + 24 * d ≤ 84 → N + 60 * ((d : Nat) : Int) + 60 ≤ 300 → zu g N + 26 * d + 26 ≤ 200 → (∀ σ', kvq d σ σ' → cvA σ' T M may g N β → Q (vl T may d r) σ') → TrI n i_Search_count [jo 7 0, ji x, ji may, ji ((d : Nat) : Int)] σ Q
section ZVf
variable {n d : Nat} {σ σ1 σ2 : jS} {g g' : zH} {N N' may k x : Int} {β new β' : List (Int × Int)} {T : zT} {M : zM} {r L : List Int}
theorem vl_eq : ∀ d, vl T may d r = vSm (vCt T may (vf T may d) r) (tG T).toNat := by intro d; cases d <;> rfl
theorem vf_0 : ∀ {d f'}, vf T may d = some f' → ∀ r, 0 ≤ f' r := by
  intro d f' h r
  cases d with
  | zero => cases h
  | succ d => cases h; exact (vl_b d r).1
theorem kvq.rf (d : Nat) (σ : jS) : kvq d σ σ := ⟨kq.rf _ σ, fun _ _ => rfl⟩
theorem kvq.tr (h : kvq d σ σ1) (h' : kvq d σ1 σ2) : kvq d σ σ2 := ⟨h.1.tr h'.1, fun z hz => (h'.2 z hz).trans (h.2 z hz)⟩
theorem kvq.up {d' : Nat} (h : kvq d σ σ1) (hd : d ≤ d') : kvq d' σ σ1 := ⟨h.1, fun z hz => h.2 z (by omega)⟩
theorem vFp_of {l : List (Nat × Int)} (hl : (l.all (fun p => decide (p.1 / 1000 = 9 ∨ p.1 = 7012 ∨ (p.1 / 1000 = 2 ∧ p.2 = 0) ∨ ((p.1 = 0 ∨ p.1 = 1) ∧ 242 ≤ p.2 ∧ p.2 ≤ 244)))) = true) : ∀ p, p ∈ l → vFp p.1 p.2 := fun p hp => by
  have := of_decide_eq_true (List.all_eq_true.mp hl p hp)
  unfold vFp
  omega
theorem cq.kvq {l : List (Nat × Int)} (e : cq l σ σ1) (hl : (l.all (fun p => decide (p.1 / 1000 = 9 ∨ p.1 = 7012 ∨ (p.1 / 1000 = 2 ∧ p.2 = 0) ∨ ((p.1 = 0 ∨ p.1 = 1) ∧ 242 ≤ p.2 ∧ p.2 ≤ 244)))) = true) (h7 : l.contains (7012, 0) = false) : kvq d σ σ1 := ⟨cq_kq e (vFp_of hl), fun z _ => by rw [e.nraf 7012 0 (by decide) h7]⟩
theorem cvK.cq {l : List (Nat × Int)} (h : cvK σ T may) (hK : rkK σ) (e : cq l σ σ1) (h2 : (([(2000, 0), (2001, 0), (2002, 0), (2003, 0), (2004, 0)] : List (Nat × Int)).all (fun p => !l.contains p)) = true) (hf : ∀ o : Int, (2 ≤ o ∧ o < 242) ∨ 251 ≤ o → ¬ (0, o) ∈ l ∧ ¬ (1, o) ∈ l) : cvK σ1 T may := by
  have hm : ∀ p, p ∈ ([(2000, 0), (2001, 0), (2002, 0), (2003, 0), (2004, 0)] : List (Nat × Int)) → l.contains p = false := fun p hp => by
    have := List.all_eq_true.mp h2 p hp
    simpa using this
  obtain ⟨a1, a2⟩ := h
  unfold cvK
  rw [e.nrs 2003 0 (by decide) (hm _ (by decide)), e.nrs 2004 0 (by decide) (hm _ (by decide)), e.nraf 2000 0 (by decide) (hm _ (by decide)), e.nraf 2001 0 (by decide) (hm _ (by decide)), e.nraf 2002 0 (by decide) (hm _ (by decide))]
  refine ⟨a1, fun i i0 i1 => ?_⟩
  obtain ⟨c1, rr, dd, c2, c3, c4, c5, c6, c7⟩ := a2 i i0 i1
  have h251 := (hK.2.2.2 i i0 (by omega) c1).1
  obtain ⟨q1, q2⟩ := hf _ (Or.inr h251)
  refine ⟨c1, rr, dd, ?_, c3, c4, c5, c6, c7⟩
  unfold fT
  rw [(e.1 1 _ (by decide) q2).1, (e.1 0 _ (by decide) q1).2.2, show ra σ1 0 (ra σ 2000 0 i) = ra σ 0 (ra σ 2000 0 i) from funext (e.1 0 _ (by decide) q1).2.1]
  exact c2
theorem cZ.rkK (h : cZ σ T M) : rkK σ := h.2.2.2.1.2.2.2.2.2.2.2.2.2.2.2.2
theorem cvA.cq {l : List (Nat × Int)} (h : cvA σ T M may g N β) (e : cq l σ σ1) (hT : cT σ1 g' N' β') (hl : (mrL ++ cTxF ++ (9007, 0) :: (6001, 1) :: ccT.map (fun p => p.1)).all (fun p => !l.contains p) = true) (h2 : (([(2000, 0), (2001, 0), (2002, 0), (2003, 0), (2004, 0)] : List (Nat × Int)).all (fun p => !l.contains p)) = true) (hf : ∀ o : Int, (2 ≤ o ∧ o < 242) ∨ 251 ≤ o → ¬ (0, o) ∈ l ∧ ¬ (1, o) ∈ l) : cvA σ1 T M may g' N' β' := ⟨h.1.tw e hT hl hf, hT, h.2.2.cq h.1.rkK e h2 hf⟩
theorem c_nOf {Q : Int → jS → Prop} (hn : 1 ≤ n) (hc : cln σ) (hx : cTx σ T) (k0 : 0 ≤ k) (k1 : k < tG T) (hq : Q (tN T k) σ) : TrI n i_Text_needsOf [jo 10 (rs σ 7019 0), ji k] σ Q := by
  have hG := hx.1.2.2.2.1
  obtain ⟨hT, tx, h2, h3, h4, h5, h6, h7, h8, h9⟩ := hx
  rw [h3]
  have l6 : rl σ 10006 tx = 24 := by
    rcases h2 with w | w
    · rw [w]; exact cln_at hc 10006 0 24 (by decide)
    · rw [w]; exact cln_at hc 10006 1 24 (by decide)
  refine wp_Text_needsOf ⟨by omega, by omega, c_hasGiven (by omega) h6 hT ?_⟩
  rw [show (if 0 ≤ k ∧ k < tG T then (1 : Int) else 0) = 1 from if_pos ⟨k0, k1⟩, if_neg (by decide), (h9 k k0 k1).2.1]
  exact ⟨by omega, k0, by omega, hq⟩
theorem c_vback {Q : jS → Prop} {mk tp : Int} (hn : 2 ≤ n) (h : cvA σ T M may g' N' (new ++ β)) (ha : agr g g' N) (hN : N ≤ N') (h0 : 0 ≤ N) (hz : zok g N) (hb : bok g N β) (hzu : zu g N ≤ 20000) (hmk : mk = ((β.length : Nat) : Int)) (htp : tp = N) (hq : ∀ σ', kvq d σ σ' → cvA σ' T M may g N β → Q σ') : TrV n i_Terms_back [jo 9 0, ji mk, ji tp] σ Q := by
  rw [hmk, htp]
  refine wp_Terms_back (c_back (by omega) h0 new σ h.2.1 (fun σ4 m1 m2 => ?_))
  have hT := cT_low m1 ha hN h0 hz hb hzu (m := min N' N) (by omega)
  have e1 : sq [(9000, 0), (9001, 0), (9005, 0)] σ4 (ws σ4 9000 0 (min N' N)) := (sq.rf _ σ4).pws 9000 0 _ (by decide)
  have e2 : cq [(9000, 0), (9001, 0), (9005, 0)] σ (ws σ4 9000 0 (min N' N)) := (m2.cq (by decide)).tr (e1.cq (by decide))
  exact hq _ (e2.kvq (by decide) (by decide)) (h.cq e2 hT (by decide) (by decide) (nofl3 (by decide)))
theorem vPr_0 {f : List Int → Int} {θ : Int → List Int} {i : Nat} (h : vPr f T k θ i = 0) : ∀ j, vPr f T k θ (i + j) = 0 := by
  intro j
  induction j with
  | zero => exact h
  | succ j ih =>
    show min (vPr f T k θ (i + j) * _) 1000000 = 0
    rw [ih, Int.zero_mul]
    decide
theorem vSm_top {c : Nat → Int} (hc : ∀ k, 0 ≤ c k) {i : Nat} (h : vSm c i = 1000000) : ∀ j, vSm c (i + j) = 1000000 := by
  intro j
  induction j with
  | zero => exact h
  | succ j ih =>
    have := hc (i + j)
    show min (vSm c (i + j) + c (i + j)) 1000000 = 1000000
    omega
theorem mul_6 {a b : Int} (a0 : 0 ≤ a) (a1 : a ≤ 1000000) (b0 : 0 ≤ b) (b1 : b ≤ 1000000) : 0 ≤ a * b ∧ a * b ≤ 1000000000000 := by
  refine ⟨Int.mul_nonneg a0 b0, ?_⟩
  have := Int.mul_le_mul a1 b1 b0 (by omega)
  exact Int.le_trans this (by decide)
theorem c_cby46 {Q : Int → jS → Prop} {d' : Nat} {mk tp : Int} {ns : List Int} {θ : Int → List Int} (hn : 13 + 3 * d' ≤ n) (hd : d' ≤ 2) (hc : cntC T M may d' (12 + 3 * d')) (k0 : 0 ≤ k) (k1 : k < tG T) (hN : N + 60 * ((d' : Nat) : Int) + 60 ≤ 300) (hzu : zu g N + 26 * d' + 26 ≤ 200)
    (hV : ∀ q : Nat, q < (tN T k).toNat → ∃ L' : List Int, L'.length + 24 * d' ≤ 84 ∧ vOK g N β (ns.getD q 0) L' (sbt θ (tR T k (q + 1))) ∧ (sbt θ (tR T k (q + 1))).length * 12 ^ d' ≤ 20736)
    (hK : ∀ σ1, kvq (d' + 1) σ σ1 → cvA σ1 T M may g N β → TrV (n - 1) i_Terms_back [jo 9 0, ji mk, ji tp] σ1 (fun s => Q (vPr (vl T may d') T k θ (tN T k).toNat) s)) :
    ∀ (j i : Nat) (σ1 : jS), i + j = (tN T k).toNat → kvq (d' + 1) σ σ1 → cvA σ1 T M may g N β → (∀ q : Nat, q < (tN T k).toNat → ra σ1 7012 0 (((d' + 1 : Nat) : Int) * 4 + (q : Nat)) = ns.getD q 0) → J n c_Search_countBy (some .long) 46 [some (jo 7 0), some (ji k), none, some (ji may), some (ji ((d' + 1 : Nat) : Int)), some (ji mk), some (ji tp), some (jl (vPr (vl T may d') T k θ i)), none, some (ji (i : Nat)), none, none] [] σ1 (qL Q) := by
  intro j
  induction j with
  | zero =>
    intro i σ1 hi e1 hA hr
    have hZ := hA.1
    have t70 := cC_at hZ.2.1 7000 0 0 (by decide)
    have hx := hZ.2.2.1
    obtain ⟨hT, tx, h2, h3, -⟩ := hx
    have hN4 := hT.2.2.2.2.2 k k0 k1
    refine wp_Search_countBy_46 ⟨by omega, by omega, by omega, c_nOf (by omega) hZ.1 hZ.2.2.1 k0 k1 ?_⟩
    rw [if_pos (by omega), t70]
    have e : i = (tN T k).toNat := by omega
    rw [e]
    exact ⟨by omega, hK σ1 e1 hA⟩
  | succ j ih =>
    intro i σ1 hi e1 hA hr
    have hZ := hA.1
    have t70 := cC_at hZ.2.1 7000 0 0 (by decide)
    have l12 := cln_at hZ.1 7012 0 80 (by decide)
    have hx := hZ.2.2.1
    obtain ⟨hT, tx, h2, h3, -⟩ := hx
    have hN4 := hT.2.2.2.2.2 k k0 k1
    have hpb := vPr_b (T := T) (k := k) (θ := θ) (f := vl T may d') (fun r => (vl_b d' r).1) i
    refine wp_Search_countBy_46 ⟨by omega, by omega, by omega, c_nOf (by omega) hZ.1 hZ.2.2.1 k0 k1 ?_⟩
    rw [if_neg (by omega)]
    by_cases q : vPr (vl T may d') T k θ i = 0
    · rw [q, if_pos (by decide), t70]
      have e := vPr_0 q (j + 1)
      rw [hi] at e
      have hK2 := hK σ1 e1 hA
      rw [e] at hK2
      exact ⟨by omega, hK2⟩
    · rw [if_neg (by unfold lcm3; rw [if_neg (by omega), if_neg q]; decide), l12, hr i (by omega)]
      obtain ⟨L', v1, v2, v3⟩ := hV i (by omega)
      have e4 : (((d' + 1 : Nat) : Int)) - 1 = ((d' : Nat) : Int) := by omega
      rw [e4]
      refine ⟨by omega, ⟨by omega, by omega⟩, ⟨by omega, by omega⟩, by omega, by omega, ⟨by omega, by omega⟩, hc (n - 1) σ1 g N β _ L' _ _ (by omega) hA v2 v3 v1 hN hzu (fun σ2 e2 hA2 => ?_)⟩
      have hvb := vl_b (T := T) (may := may) d' (sbt θ (tR T k (i + 1)))
      have hm := mul_6 hpb.1 hpb.2 hvb.1 hvb.2
      refine ⟨⟨by omega, by omega⟩, ⟨by omega, by omega⟩, ?_⟩
      exact ih (i + 1) σ2 (by omega) (e1.tr (e2.up (by omega))) hA2 (fun q hq => by rw [e2.2 _ (by omega)]; exact hr q hq)
theorem pow12 {a : Nat} (h : 1 ≤ a) {b : Nat} (hb : a * 12 ^ b ≤ 20736) : a ≤ 20736 := by
  have h1 : 1 ≤ 12 ^ b := Nat.one_le_pow _ _ (by decide)
  have h2 : a * 1 ≤ a * 12 ^ b := Nat.mul_le_mul_left a h1
  omega
theorem c_cby {Q : Int → jS → Prop} {k : Nat} (hd3 : d ≤ 3) (hn : 10 + 3 * d ≤ n) (hc : ∀ d', d = d' + 1 → cntC T M may d' (12 + 3 * d')) (hA : cvA σ T M may g N β) (hv : vOK g N β x L r) (hr1 : r.length * 12 ^ d ≤ 20736) (hL : L.length + 24 * d ≤ 84) (hN : N + 60 * ((d : Nat) : Int) + 60 ≤ 300) (hzu : zu g N + 26 * d + 26 ≤ 200) (k1 : ((k : Nat) : Int) < tG T) (hmay : tb may (k : Int) = true) (hvar : vNo T may) (h0 : tN T k = 0 ∨ 0 < d)
    (hq : ∀ σ', kvq d σ σ' → cvA σ' T M may g N β → Q (vCt T may (vf T may d) r k) σ') : TrL n i_Search_countBy [jo 7 0, ji (k : Nat), ji x, ji may, ji ((d : Nat) : Int)] σ Q := by
  have k0 : 0 ≤ ((k : Nat) : Int) := by omega
  have hZ := hA.1
  have hT := hA.2.1
  have t70 := cC_at hZ.2.1 7000 0 0 (by decide)
  have htok := hZ.2.2.1.1
  have h90 : rs σ 9000 0 = N := hT.1.2.2.2.1
  have h91 : rs σ 9001 0 = ((β.length : Nat) : Int) := hT.1.2.2.2.2.2.2.2.2.2.2.2.2.1.1
  have hz := hv.1
  have hb := hv.2.1
  have hN0 := hv.2.2.2.1
  have hr0 : 1 ≤ r.length := by rw [← hv.2.2.2.2.2.1]; exact ex_ne hz hb hv.2.2.1 hv.2.2.2.2.1.1 hv.2.2.2.2.1.2
  obtain ⟨a1, a2, a3, a4, a5, ⟨a6, a6b⟩, a7, a8⟩ := lgv_ok htok k0 k1 hz hN0
  obtain ⟨Rs, u1, u2, u3, u4, u5, u6, u7, u8, u9⟩ := vU htok k0 k1 (hvar k k0 k1 hmay) hv
  have hN4 := htok.2.2.2.2.2 k k0 k1
  refine wp_Search_countBy ⟨by omega, by omega, by omega, ?_⟩
  refine c_buildGivenV (by omega) hT hZ.2.1 hZ.2.2.1 k0 k1 (by omega) (by omega) (by omega) (by omega) (fun σ2 b1 b2 b3 b4 => ?_)
  rw [t70]
  have hA2 : cvA σ2 T M may _ _ β := hA.cq b2 b1 (by decide) (by decide) (nofl3 (by decide))
  have q2 : kvq d σ σ2 := ⟨cq_kq b2 (vFp_of (by decide)), fun z hz => b4 z (Or.inr (by omega))⟩
  refine ⟨by omega, c_unify (Rs := Rs) (by omega) (by omega) b1 u2 u3 u4.1 u4.2 u5.1 u5.2 u6 u7 (fun kk hkk => Nat.le_trans (u8 kk hkk) (Nat.le_trans (pow12 hr0 hr1) (by decide))) (fun bb new σ3 c1 c2 c3 => ?_)⟩
  have hA3 : cvA σ3 T M may (layGv T k g N).1 (layGv T k g N).2.1 (new ++ β) := hA2.cq c2 c1 (by decide) (by decide) (nofl3 (by decide))
  have q3 : kvq d σ σ3 := q2.tr (c2.kvq (by decide) (by decide))
  have h12 : ra σ3 7012 0 = ra σ2 7012 0 := c2.nraf 7012 0 (by decide) (by decide)
  have hZ3 := hA3.1
  have t73 := cC_at hZ3.2.1 7000 0 0 (by decide)
  obtain ⟨-, tx, hx2, hx3, -⟩ := hZ3.2.2.1
  rw [h90, h91]
  have fin0 : ∀ p : Int, p = vCt T may (vf T may d) r k → p = 0 ∨ tN T k = 0 → J n c_Search_countBy (some .long) 46 [some (jo 7 0), some (ji (k : Nat)), none, some (ji may), some (ji ((d : Nat) : Int)), some (ji ((β.length : Nat) : Int)), some (ji N), some (jl p), none, some (ji 0), none, none] [] σ3 (qL Q) := by
    intro p hp hp0
    have bk : TrV (n - 1) i_Terms_back [jo 9 0, ji ((β.length : Nat) : Int), ji N] σ3 (fun s => Q p s) := c_vback (d := d) (by omega) hA3 a3 a1 hN0 hz hb (by omega) rfl rfl (fun σ' w1 w2 => by rw [hp]; exact hq σ' (q3.tr w1) w2)
    refine wp_Search_countBy_46 ⟨by omega, by omega, by omega, c_nOf (by omega) hZ3.1 hZ3.2.2.1 k0 k1 ?_⟩
    by_cases w : tN T k ≤ 0
    · rw [if_pos w, t73]; exact ⟨by omega, bk⟩
    · have hp1 : p = 0 := by omega
      rw [if_neg w, if_pos (by rw [hp1]; decide), t73]
      exact ⟨by omega, bk⟩
  rcases u9 bb new c1.1.2.2.1 c3 with ⟨w1, w2, w3, w4⟩ | ⟨w1, w2⟩
  · rw [if_neg (by omega)]
    have hy := vCt_yes (T := T) (may := may) (f := vf T may d) (r := r) ⟨hmay, w2⟩
    by_cases qt : tN T k = 0
    · rw [if_pos qt] at hy
      exact fin0 1 hy.symm (Or.inr qt)
    · rw [if_neg qt] at hy
      obtain ⟨d', hd'⟩ : ∃ d', d = d' + 1 := ⟨d - 1, by omega⟩
      subst hd'
      obtain ⟨v1, v2⟩ := vth_ok w2
      have e12 : 12 ^ (d' + 1) = 12 ^ d' * 12 := Nat.pow_succ 12 d'
      refine c_cby46 (σ := σ) (n := n) (T := T) (k := k) (g := (layGv T k g N).1) (N := (layGv T k g N).2.1) (β := new ++ β) (d' := d') (θ := vth T k r) (ns := (layGv T k g N).2.2.2) (by omega) (by omega) (hc d' rfl) k0 k1 (by omega) (by omega) (fun q hq2 => ?_) (fun σ4 e4 hA4 => ?_) (tN T k).toNat 0 σ3 (by omega) q3 hA3 (fun q hq2 => ?_)
      · obtain ⟨L', z1, z2, z3⟩ := w4 _ v1 v2 q hq2
        refine ⟨L', by omega, z2, ?_⟩
        have h5 := Nat.mul_le_mul_right (12 ^ d') z3
        have h6 : 12 * r.length * 12 ^ d' = r.length * (12 ^ d' * 12) := by
          rw [Nat.mul_comm 12 r.length, Nat.mul_assoc, Nat.mul_comm 12 (12 ^ d')]
        rw [e12] at hr1
        omega
      · exact c_vback (d := d' + 1) (by omega) hA4 a3 a1 hN0 hz hb (by omega) rfl rfl (fun σ' z1 z2 => by
          have := hq σ' (e4.tr z1) z2
          rw [hy] at this
          exact this)
      · rw [h12]
        exact b3 q (by omega)
  · rw [if_pos w1]
    exact fin0 0 (vCt_no (fun w => w2 w.2)).symm (Or.inl rfl)
end ZVf
