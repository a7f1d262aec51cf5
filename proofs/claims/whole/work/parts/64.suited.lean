/-! Which given ones are candidates: the class. -/
/-- which objects hold which -/
def ccT : List ((Nat × Int) × Int) := [((7000, 0), 0), ((7001, 0), 0), ((7003, 0), 242), ((7006, 0), 1), ((7007, 0), 0), ((7008, 0), 243), ((7009, 0), 244), ((5003, 0), 0), ((3000, 0), 0), ((3000, 1), 2), ((12000, 0), 0), ((12002, 0), 0), ((12003, 0), 1), ((12004, 0), 0), ((12007, 0), 0), ((12012, 0), 245), ((12013, 0), 246), ((12014, 0), 1), ((10007, 0), 0), ((10007, 1), 1)]
def clfT : List (Int × Int) := [(0, 12), (1, 100), (242, 100), (243, 100), (244, 100), (245, 12), (246, 100), (247, 12), (248, 12), (249, 12), (250, 12)]
def cC (σ : jS) : Prop := (∀ p, p ∈ ccT → rs σ p.1.1 p.1.2 = p.2) ∧ (∀ p, p ∈ clfT → rl σ 0 p.1 = p.2) ∧ (∀ j, 2 ≤ j → j < 242 → rl σ 0 j = 12)
def stF : List (Nat × Int) := [(9000, 0), (9001, 0), (9003, 0), (9004, 0), (9005, 0), (9006, 0), (9008, 0), (9009, 0), (9010, 0), (9012, 0), (9013, 0)]
section ZCb
variable {n : Nat} {σ : jS} {g : zH} {N : Int} {β E : List (Int × Int)} {x u t : Int} {T : zT}
theorem cC_at (h : cC σ) (F : Nat) (o v : Int) (hm : (ccT.contains ((F, o), v)) = true) : rs σ F o = v := h.1 ((F, o), v) (List.contains_iff_mem.mp hm)
theorem cC.cq {l : List (Nat × Int)} {σ1 : jS} (h : cC σ) (e : cq l σ σ1) (hl : (ccT.all (fun p => !l.contains p.1)) = true) : cC σ1 := by
  obtain ⟨h1, h2, h3⟩ := h
  have k0 : ∀ o, rl σ1 0 o = rl σ 0 o := fun o => e.2.2.2.1 0 o (by decide) (fun w => by
    have : ∀ p, p ∈ lenT → ¬ p.1 = 0 := by decide
    exact this _ w rfl)
  refine ⟨fun p hp => ?_, fun p hp => ?_, fun j j0 j1 => ?_⟩
  · have w1 := List.all_eq_true.mp hl p hp
    have w2 : ∀ p, p ∈ ccT → p.1.1 < 900000 := by decide
    rw [e.nrs _ _ (w2 p hp) (by simpa using w1)]
    exact h1 p hp
  · rw [k0]; exact h2 p hp
  · rw [k0]; exact h3 j j0 j1
def cTxF : List (Nat × Int) := [(7019, 0), (12005, 0), (10000, 0), (10000, 1), (10001, 0), (10001, 1), (10002, 0), (10002, 1), (10003, 0), (10003, 1), (10004, 0), (10004, 1), (10005, 0), (10005, 1), (10006, 0), (10006, 1), (10008, 0), (10008, 1), (10009, 0), (10009, 1)]
/-- what doesn't touch THE TEXT, nor its Flats -/
theorem cTx.cq {l : List (Nat × Int)} {σ1 : jS} (h : cTx σ T) (e : cq l σ σ1) (hl : (cTxF.all (fun p => !l.contains p)) = true) (hf : ∀ o, 2 ≤ o → o < 242 → ¬ (0, o) ∈ l ∧ ¬ (1, o) ∈ l) : cTx σ1 T := by
  obtain ⟨h1, tx, h2, h3, h4, h5, h6, h7, h8, h9⟩ := h
  have hm : ∀ p, p ∈ cTxF → l.contains p = false := fun p hp => by
    have := List.all_eq_true.mp hl p hp
    simpa using this
  have hm2 : ∀ F, (F, 0) ∈ cTxF → (F, 1) ∈ cTxF → l.contains (F, tx) = false := fun F m1 m2 => by
    rcases h2 with w | w
    · rw [w]; exact hm _ m1
    · rw [w]; exact hm _ m2
  have hfl : ∀ o r, 2 ≤ o → o < 242 → fT σ o r → fT σ1 o r := fun o r o0 o1 hh => by
    obtain ⟨c1, c2⟩ := hf o o0 o1
    unfold fT
    rw [(e.1 1 o (by decide) c2).1, (e.1 0 o (by decide) c1).2.2, show ra σ1 0 o = ra σ 0 o from funext (e.1 0 o (by decide) c1).2.1]
    exact hh
  refine ⟨h1, tx, h2, ?_⟩
  rw [e.nrs 7019 0 (by decide) (hm _ (by decide)), e.nrs 12005 0 (by decide) (hm _ (by decide)), e.nrs 10000 tx (by decide) (hm2 _ (by decide) (by decide)), e.nrs 10001 tx (by decide) (hm2 _ (by decide) (by decide)), e.nraf 10008 tx (by decide) (hm2 _ (by decide) (by decide)), e.nraf 10002 tx (by decide) (hm2 _ (by decide) (by decide)), e.nraf 10003 tx (by decide) (hm2 _ (by decide) (by decide)), e.nraf 10004 tx (by decide) (hm2 _ (by decide) (by decide)), e.nraf 10005 tx (by decide) (hm2 _ (by decide) (by decide)), e.nraf 10006 tx (by decide) (hm2 _ (by decide) (by decide)), e.nraf 10009 tx (by decide) (hm2 _ (by decide) (by decide))]
  refine ⟨h3, h4, h5, h6, h7, h8, fun k k0 k1 => ?_⟩
  obtain ⟨c1, c2, c3, c4⟩ := h9 k k0 k1
  have hG := h1.2.2.2.1
  have hN := (h1.2.2.2.2.2 k k0 k1).2.2.2.1
  exact ⟨c1, c2, fun i hi => hfl _ _ (by omega) (by rcases h2 with w | w <;> omega) (c3 i hi), c4⟩
theorem nofl {l : List (Nat × Int)} (h : (l.all (fun p => decide (2 ≤ p.1))) = true) : ∀ o : Int, 2 ≤ o → o < 242 → ¬ (0, o) ∈ l ∧ ¬ (1, o) ∈ l := fun o _ _ => by
  refine ⟨fun w => ?_, fun w => ?_⟩
  · have := of_decide_eq_true (List.all_eq_true.mp h _ w)
    dsimp only at this
    omega
  · have := of_decide_eq_true (List.all_eq_true.mp h _ w)
    dsimp only at this
    omega
theorem c_hasScope {Q : Int → jS → Prop} {tx k : Int} (h0 : 0 ≤ tx) (hS : rs σ 10000 tx = tS T) (hT : tok T) (hq : Q (if 0 ≤ k ∧ k < tS T then 1 else 0) σ) : TrI n i_Text_hasScope [jo 10 tx, ji k] σ Q := by
  have := hT.2.1
  refine wp_Text_hasScope ?_
  by_cases q : k < 0
  · rw [if_pos q]
    rw [if_neg (by omega)] at hq
    exact hq
  · rw [if_neg q]
    refine ⟨h0, ?_⟩
    by_cases q2 : rs σ 10000 tx ≤ k
    · rw [if_pos q2]
      rw [if_neg (by omega)] at hq
      exact hq
    · rw [if_neg q2, if_neg (by omega)]
      rw [if_pos (by omega)] at hq
      exact hq
theorem c_partFlat {Q : Int → jS → Prop} {tx k : Int} {i : Nat} (htx : tx = 0 ∨ tx = 1) (hc : cln σ) (hp : ∀ j, 0 ≤ j → j < 120 → ra σ 10008 tx j = 2 + 120 * tx + j) (k0 : 0 ≤ k) (k1 : k < 24) (hi : i ≤ 4) (hq : Q (2 + 120 * tx + (5 * k + i)) σ) : TrO n i_Text_part 0 [jo 10 tx, ji k, ji (i : Nat)] σ Q := by
  have l8 : rl σ 10008 tx = 120 := by
    rcases htx with w | w
    · rw [w]; exact cln_at hc 10008 0 120 (by decide)
    · rw [w]; exact cln_at hc 10008 1 120 (by decide)
  refine wp_Text_part ⟨⟨by omega, by omega⟩, ⟨by omega, by omega⟩, by omega, by omega, ?_⟩
  rw [if_neg (by omega), if_neg (by omega), hp _ (by omega) (by omega)]
  refine ⟨by omega, by omega, by omega, ?_⟩
  rw [show k * 5 + ((i : Nat) : Int) = 5 * k + (i : Nat) by omega]
  exact hq
/-- which are usable at a scope -/
theorem c_usable {Q : Int → jS → Prop} {s : Int} (hn : 1 ≤ n) (h : cln σ) (hx : cTx σ T) (s0 : 0 ≤ s) (s1 : s < tS T) (hq : ∀ b, bse b (fun k => 0 ≤ k ∧ k < tG T ∧ tH T k = s ∧ ¬ tb (rs σ 7015 0) k = true ∧ ¬ tb (rs σ 7016 0) s = true) → Q b σ) : TrI n i_Search_usable [jo 7 0, ji s] σ Q := by
  obtain ⟨h1, tx, h2, h3, h4, h5, h6, h7, h8, h9⟩ := hx
  have hS := h1.2.1
  have l4 : rl σ 10004 tx = 8 := by
    rcases h2 with w | w
    · rw [w]; exact cln_at h 10004 0 8 (by decide)
    · rw [w]; exact cln_at h 10004 1 8 (by decide)
  refine wp_Search_usable ⟨by omega, hn, by omega, ?_⟩
  rw [h3]
  refine c_hasScope (by omega) h5 h1 ?_
  rw [show (if 0 ≤ s ∧ s < tS T then (1 : Int) else 0) = 1 from if_pos ⟨s0, s1⟩, if_neg (by decide)]
  refine c_isIn s0 (by omega) ?_
  unfold has1
  by_cases q : tb (rs σ 7016 0) s = true
  · rw [if_pos q, if_neg (by decide)]
    refine hq 0 ⟨⟨by decide, by decide⟩, fun k k0 k1 => ?_⟩
    rw [tb_0]
    exact ⟨fun w => (by cases w), fun w => absurd q w.2.2.2.2⟩
  · rw [if_neg q, if_pos rfl, h3]
    refine ⟨by omega, by omega, s0, by omega, hq _ ⟨i32_bAnd _ _, fun k k0 k1 => ?_⟩⟩
    rw [tb_and, tb_xor, tb_m1 k1, Bool.and_eq_true, (h8 s s0 s1).2.2.2 k k0 k1, Bool.xor_true]
    constructor
    · rintro ⟨⟨w1, w2, w3⟩, w4⟩
      exact ⟨w1, w2, w3, by simpa using w4, q⟩
    · rintro ⟨w1, w2, w3, w4, -⟩
      exact ⟨⟨w1, w2, w3⟩, by simpa using w4⟩
theorem c_suited30 {Q : Int → jS → Prop} {s am : Int} (hn : 7 ≤ n) (h : cT σ g N β) (hC : cC σ) (hx : cTx σ T) (hr : rep g N β E) (hE : eok N E) (x0 : 0 ≤ x) (x1 : x < N) (hxl : (ex g N β x).length ≤ 100) (hN : N + 12 ≤ 40000) (hz : zu g N + 26 ≤ 20000)
    (ham : bse am (fun k => 0 ≤ k ∧ k < tG T ∧ tH T k = s ∧ ¬ tb (rs σ 7015 0) k = true ∧ ¬ tb (rs σ 7016 0) s = true))
    (hq : ∀ b σ1, cT σ1 g N β → cq stF σ σ1 → bse b (canP T (rs σ 7015 0) (rs σ 7016 0) g N E x s) → Q b σ1) :
    ∀ (j k : Nat) (b : Int) (σ1 : jS), ((k + j : Nat) : Int) = tG T → cT σ1 g N β → cq stF σ σ1 → bse b (fun c => c < (k : Nat) ∧ canP T (rs σ 7015 0) (rs σ 7016 0) g N E x s c) → J n c_Search_suited (some .int) 30 [some (jo 7 0), some (ji x), none, some (ji (β.length : Nat)), some (ji N), some (ji am), some (ji b), some (ji (k : Nat))] [] σ1 (qI Q) := by
  have hzk := h.1.2.1
  have hbk := h.1.2.2.1
  have hN0 := h.1.2.2.2.2.1
  intro j
  induction j with
  | zero =>
    intro k b σ1 hk f1 f2 hb
    have hx1 := hx.cq f2 (by decide) (nofl (by decide))
    obtain ⟨h1, tx, h2, h3, h4, h5, h6, h7, h8, h9⟩ := hx1
    refine wp_Search_suited_30 ⟨by omega, by omega, ?_⟩
    rw [h3, if_pos (by omega)]
    refine hq b σ1 f1 f2 ⟨hb.1, fun c c0 c1 => ?_⟩
    rw [hb.2 c c0 c1]
    exact ⟨fun q => q.2, fun q => ⟨by have := q.2.1; omega, q⟩⟩
  | succ j ih =>
    intro k b σ1 hk f1 f2 hb
    have hx1 := hx.cq f2 (by decide) (nofl (by decide))
    have hC1 := hC.cq f2 (by decide)
    have t70 := cC_at hC1 7000 0 0 (by decide)
    obtain ⟨h1, tx, h2, h3, h4, h5, h6, h7, h8, h9⟩ := hx1
    have hG := h1.2.2.2.1
    have hkG : ((k : Nat) : Int) < tG T := by omega
    have next0 : ∀ σ2, cT σ2 g N β → cq stF σ σ2 → ¬ canP T (rs σ 7015 0) (rs σ 7016 0) g N E x s k → J n c_Search_suited (some .int) 30 [some (jo 7 0), some (ji x), none, some (ji (β.length : Nat)), some (ji N), some (ji am), some (ji b), some (ji ((k : Nat) + 1))] [] σ2 (qI Q) := fun σ2 c1 c2 c5 => by
      refine ih (k + 1) b σ2 (by omega) c1 c2 ⟨hb.1, fun c d0 d1 => ?_⟩
      rw [hb.2 c d0 d1]
      refine ⟨fun q => ⟨by omega, q.2⟩, fun q => ⟨?_, q.2⟩⟩
      rcases Int.lt_or_le c k with w | w
      · exact w
      · have : c = k := by omega
        rw [this] at q
        exact absurd q.2 c5
    refine wp_Search_suited_30 ⟨by omega, by omega, ?_⟩
    rw [h3, if_neg (by omega)]
    refine ⟨by omega, c_isIn (by omega) (by omega) ?_⟩
    have ham2 := ham.2 k (by omega) (by omega)
    unfold has1
    by_cases qa : tb am k = true
    · obtain ⟨-, -, qs, qo, qh⟩ := ham2.mp qa
      rw [if_pos qa, if_neg (by decide), h3, t70]
      have hgk := h1.2.2.2.2.2 k (by omega) hkG
      have hrow := hgk.2.2.2.2 0 hgk.2.2.1
      have hfl := (h9 k (by omega) hkG).2.2.1 0 hgk.2.2.1
      refine ⟨by omega, c_partFlat (i := 0) h2 f1.1.1 h7 (by omega) (by omega) (by omega) ⟨by omega, ?_⟩⟩
      refine c_build (vs := fun _ => -1) (by omega) f1 hfl (vok_n g N) (Or.inr ⟨rfl, rfl⟩) hrow.2.1 hrow.1 (by have := hrow.2.2; omega) (by rw [unu_n]; exact hz) (by have := hrow.2.2; omega) (fun σ2 a1 a2 a3 a8 => ⟨by omega, ?_⟩)
      have hrt := lay_root a8 hrow.1
      have hNle := a8.1
      have hag := a8.2.2.1
      have hrep : rep _ _ β E := rep_ext hag hNle hzk a8.2.2.2.1 hE hr
      have hxl2 : (ex (layR (tR T k 0) g N (fun _ => -1)).1 (layR (tR T k 0) g N (fun _ => -1)).2.1 β x).length ≤ 100 := by
        rw [ex_ext hag hNle hzk a8.2.2.2.1 hbk hr.2.1 x x0 x1]; exact hxl
      have hrl := lay_exlen a8 hrow.1 hbk hrep.1 hrep.2.1
      have hrw := hrow.2.2
      obtain ⟨R1, p1, p2, p3, p4⟩ := sml_ex a8.2.2.2.1 hrep.1 hrep.2.1 _ hrt.1 hrt.2.1
      obtain ⟨R2, u1, u2, u3, u4⟩ := sml_ex a8.2.2.2.1 hrep.1 hrep.2.1 x x0 (by omega)
      have hRl : (R1 ++ R2).length ≤ 200 := by rw [List.length_append]; omega
      refine c_unify (Rs := R1 ++ R2) (by omega) hRl a1 hrep.2.1 (sml_app p2 u2) hrt.1 hrt.2.1 x0 (by omega) (List.mem_append_left _ p1) (List.mem_append_right _ u1) (fun kk hkk => crun_most a8.2.2.2.1 hrep.1 hrep.2.1 hrt.1 hrt.2.1 x0 (by omega) (by omega) hkk) (fun bb new σ3 c1 c2 c3 => ?_)
      have hcan : (bb = 1 ∧ canP T (rs σ 7015 0) (rs σ 7016 0) g N E x s k) ∨ (bb = 0 ∧ ¬ canP T (rs σ 7015 0) (rs σ 7016 0) g N E x s k) := by
        rcases c3 with ⟨e, d1, d2, -, d3⟩ | ⟨e, d3⟩
        · refine Or.inl ⟨e, by omega, hkG, qs, qo, qh, (lay_uni a8 hrow.1 hzk hE x0 x1).mp ?_⟩
          have hsol := ex_sol c1.1.2.1 c1.1.2.2.1 d1
          have := (d3 _).mp hsol
          exact ⟨_, (hrep.2.2 _).mp this.1, this.2⟩
        · refine Or.inr ⟨e, fun w => ?_⟩
          obtain ⟨ρ, w1, w2⟩ := (lay_uni a8 hrow.1 hzk hE x0 x1).mpr w.2.2.2.2.2
          exact d3 ρ ((hrep.2.2 ρ).mpr w1) w2
      have hC3 : cC σ3 := (hC1.cq a3 (by decide)).cq c2 (by decide)
      have t73 := cC_at hC3 7000 0 0 (by decide)
      have back : ∀ b2, bse b2 (fun c => c < ((k + 1 : Nat) : Int) ∧ canP T (rs σ 7015 0) (rs σ 7016 0) g N E x s c) → TrV (n - 1) i_Terms_back [jo 9 0, ji (β.length : Nat), ji N] σ3 (fun zs22 => i32 (((k : Nat) : Int) + 1) ∧ J n c_Search_suited (some .int) 30 [some (jo 7 0), some (ji x), none, some (ji (β.length : Nat)), some (ji N), some (ji am), some (ji b2), some (ji (((k : Nat) : Int) + 1))] [] zs22 (qI Q)) := by
        intro b2 hb2
        refine wp_Terms_back (c_back (by omega) hN0 new σ3 c1 (fun σ4 m1 m2 => ⟨⟨by omega, by omega⟩, ?_⟩))
        have hmin : min (layR (tR T k 0) g N (fun _ => -1)).2.1 N = N := by omega
        have hcT := cT_low m1 hag hNle hN0 hzk hbk h.1.2.2.2.2.2.2.1 hmin
        refine ih (k + 1) b2 _ (by omega) hcT ?_ hb2
        have e1 : sq stF σ4 (ws σ4 9000 0 (min (layR (tR T k 0) g N (fun _ => -1)).2.1 N)) := (sq.rf _ σ4).pws 9000 0 _ (by decide)
        exact ((((f2.tr (a3.mo (by decide))).tr (c2.mo (by decide))).tr (m2.cq (by decide))).tr (e1.cq (by decide)))
      rcases hcan with ⟨e, w⟩ | ⟨e, w⟩
      · rw [if_neg (by omega), t73]
        refine ⟨by omega, back _ ⟨i32_bOr _ _, fun c d0 d1 => ?_⟩⟩
        rw [tb_or, tb_one (by omega) (by omega) d0, Bool.or_eq_true, hb.2 c d0 d1, decide_eq_true_eq]
        constructor
        · rintro (⟨y1, y2⟩ | y)
          · exact ⟨by omega, y2⟩
          · rw [y]; exact ⟨by omega, w⟩
        · rintro ⟨y1, y2⟩
          by_cases y : c = k
          · exact Or.inr y
          · exact Or.inl ⟨by omega, y2⟩
      · rw [if_pos e, t73]
        refine ⟨by omega, back _ ⟨hb.1, fun c d0 d1 => ?_⟩⟩
        rw [hb.2 c d0 d1]
        refine ⟨fun q => ⟨by omega, q.2⟩, fun q => ⟨?_, q.2⟩⟩
        rcases Int.lt_or_le c k with y | y
        · exact y
        · have : c = k := by omega
          rw [this] at q
          exact absurd q.2 w
    · rw [if_neg qa, if_pos rfl]
      exact ⟨⟨by omega, by omega⟩, next0 σ1 f1 f2 (fun w => qa (ham2.mpr ⟨w.1, w.2.1, w.2.2.1, w.2.2.2.1, w.2.2.2.2.1⟩))⟩
theorem c_suited {Q : Int → jS → Prop} {s : Int} (hn : 7 ≤ n) (h : cT σ g N β) (hC : cC σ) (hx : cTx σ T) (hr : rep g N β E) (hE : eok N E) (x0 : 0 ≤ x) (x1 : x < N) (hxl : (ex g N β x).length ≤ 100) (hN : N + 12 ≤ 40000) (hz : zu g N + 26 ≤ 20000) (s0 : 0 ≤ s) (s1 : s < tS T)
    (hq : ∀ b σ1, cT σ1 g N β → cq stF σ σ1 → bse b (canP T (rs σ 7015 0) (rs σ 7016 0) g N E x s) → Q b σ1) : TrI n i_Search_suited [jo 7 0, ji x, ji s] σ Q := by
  obtain ⟨m, hm⟩ := Int.eq_ofNat_of_zero_le hx.1.2.2.1
  have t70 := cC_at hC 7000 0 0 (by decide)
  refine wp_Search_suited ⟨by omega, by omega, by omega, c_usable (by omega) h.1.1 hx s0 s1 (fun am ham => ?_)⟩
  rw [t70, h.1.2.2.2.2.2.2.2.2.2.2.2.2.1.1, h.1.2.2.2.1]
  exact c_suited30 hn h hC hx hr hE x0 x1 hxl hN hz ham hq m 0 0 σ (by rw [Nat.zero_add]; exact hm.symm) h (cq.rf _ σ) ⟨⟨by decide, by decide⟩, fun c c0 c1 => by
    rw [tb_0]
    exact ⟨fun q => (by cases q), fun q => absurd q.1 (by omega)⟩⟩
end ZCb
