/-! Which given ones are candidates: the reference. -/
section ZCa
variable {n : Nat} {σ : jS} {g : zH} {N : Int} {β E : List (Int × Int)} {x u t : Int} {T : zT}
/-- no more steps than the class allows -/
theorem crun_most {k : Nat} {y : Int} (hz : zok g N) (hb : bok g N β) (ha : acy g N β) (x0 : 0 ≤ x) (x1 : x < N) (y0 : 0 ≤ y) (y1 : y < N) (hl : (ex g N β x).length + (ex g N β y).length ≤ 112) (h : crun g N k β [(x, y)]) : k ≤ 16777216 := by
  exact crun_most2 hz hb ha x0 x1 y0 y1 hl h
def has1 (b k : Int) : Int := if tb b k = true then 1 else 0
theorem t_has {Q : Int → jS → Prop} {b k : Int} (k0 : 0 ≤ k) (k1 : k < 32) (hq : Q (has1 b k) σ) : TrI n i_Model_has [ji b, ji k] σ Q := by
  refine wp_Model_has ?_
  rw [tb_has k0 k1]
  unfold has1 at hq
  by_cases q : tb b k = true
  · rw [if_pos q] at hq ⊢
    rw [if_neg (fun w => w rfl)]
    exact hq
  · rw [if_neg q] at hq ⊢
    rw [if_pos (by decide)]
    exact hq
theorem c_isIn {Q : Int → jS → Prop} {b k : Int} (k0 : 0 ≤ k) (k1 : k < 32) (hq : Q (has1 b k) σ) : TrI n i_Top_isIn [ji b, ji k] σ Q := by
  refine wp_Top_isIn ?_
  rw [tb_has k0 k1]
  unfold has1 at hq
  by_cases q : tb b k = true
  · rw [if_pos q] at hq ⊢
    rw [if_neg (fun w => w rfl)]
    exact hq
  · rw [if_neg q] at hq ⊢
    rw [if_pos (by decide)]
    exact hq
/-- a given one is a candidate for a node's type, at a scope -/
def canP (T : zT) (outs shuts : Int) (g : zH) (N : Int) (E : List (Int × Int)) (x s k : Int) : Prop :=
  0 ≤ k ∧ k < tG T ∧ tH T k = s ∧ ¬ tb outs k = true ∧ ¬ tb shuts s = true ∧ ∃ ρ, solE g N E ρ ∧ ∃ θ : Int → List Int, (∀ v, Typ (θ v)) ∧ sbt θ (tR T k 0) = ρ x
def gvF : List (Nat × Int) := [(1028, 0), (1029, 0), (1030, 0), (1031, 0), (1032, 0), (1033, 0), (1034, 0), (1035, 0), (1036, 0), (1037, 0), (1038, 0), (1039, 0), (1040, 0)]
theorem mTx.sq {σ1 : jS} {l : List (Nat × Int)} (h : mTx σ T) (e : sq l σ σ1) (hl : (([(1008, 0), (1009, 0), (1010, 0), (1011, 0), (1012, 0), (1013, 0), (1014, 0), (1026, 0)] : List (Nat × Int)).all (fun p => !l.contains p)) = true) : mTx σ1 T := by
  have hm : ∀ p, p ∈ ([(1008, 0), (1009, 0), (1010, 0), (1011, 0), (1012, 0), (1013, 0), (1014, 0), (1026, 0)] : List (Nat × Int)) → l.contains p = false := fun p hp => by
    have := List.all_eq_true.mp hl p hp
    simpa using this
  unfold mTx
  rw [e.nrs 1013 0 (hm _ (by decide)), e.nrs 1014 0 (hm _ (by decide)), e.nraf 1008 0 (hm _ (by decide)), e.nraf 1009 0 (hm _ (by decide)), e.nraf 1010 0 (hm _ (by decide)), e.nraf 1011 0 (hm _ (by decide)), e.nraf 1012 0 (hm _ (by decide)), e.nraf 1026 0 (hm _ (by decide))]
  exact h
theorem vok_n (g : zH) (N : Int) : vok g N (fun _ => -1) := fun _ => Or.inl rfl
theorem unu_n : unu (fun _ => -1) = 26 := by decide
/-- a given one's RESULT is laid, with unknowns of its own -/
theorem t_layGiven0 {Q : Int → jS → Prop} {k : Int} (hn : 2 ≤ n) (h : mT σ g N β) (hx : mTx σ T) (k0 : 0 ≤ k) (k1 : k < tG T) (hN : N + 12 ≤ 40000) (hp : rs σ 1034 0 + 12 ≤ 40000) (hz : zu g N + 26 ≤ 20000) (hq : ∀ σ1, lst2 σ σ1 g N (fun _ => -1) β (tR T k 0) → Q ((layR (tR T k 0) g N (fun _ => -1)).2.2.2.headD 0) σ1) : TrI n i_Model_layGiven [jo 1 0, ji k, ji 0] σ Q := by
  have hG := hx.1.2.2.2.1
  obtain ⟨r1, r2, r3⟩ := (hx.1.2.2.2.2.2 k k0 k1).2.2.2.2 0 (hx.1.2.2.2.2.2 k k0 k1).2.2.1
  refine wp_Model_layGiven ?_
  rw [if_neg (fun w => w rfl)]
  refine ⟨by omega, by omega, t_newUnknowns h.1 (fun σ1 f1 hV => ?_)⟩
  have h1 := h.sq f1 (by decide)
  have hx1 := hx.sq f1 (by decide)
  have l11 := mln_at h1.1 1011 1440 (by decide)
  have l12 := mln_at h1.1 1012 120 (by decide)
  have e12 := ((hx1.2.2.2.2.1 k k0 k1).2.2 0 (hx.1.2.2.2.2.2 k k0 k1).2.2.1)
  have e34 : rs σ1 1034 0 = rs σ 1034 0 := f1.nrs 1034 0 (by decide)
  refine wp_Model_layGiven_8 ⟨by omega, by omega, ⟨by omega, by omega⟩, ⟨by omega, by omega⟩, ⟨by omega, by omega⟩, by omega, by omega, by omega, by omega, ?_⟩
  rw [show 5 * k + 0 = 5 * k + ((0 : Nat) : Int) by omega, e12.1]
  refine t_layRow (by omega) h1 hV (vok_n g N) rfl rfl (by decide) (by omega) (by omega) e12.2 r2 r1 (by omega) (by omega) (by rw [unu_n]; exact hz) (by omega) (by omega) (fun σ2 hl => hq σ2 ?_)
  obtain ⟨a1, a2, a3, a4, a5, a6, a7, a8⟩ := hl
  exact ⟨a1, a2, (f1.mo (by decide)).tr a3, (kpp.of f1 (by decide)).tr a4 (Int.le_refl _), a5, a6, by rw [← e34]; exact a7, a8⟩
theorem t_cands23 {Q : Int → jS → Prop} {s : Int} (hn : 3 ≤ n) (h : mT σ g N β) (hx : mTx σ T) (hr : rep g N β E) (hE : eok N E) (x0 : 0 ≤ x) (x1 : x < N) (hxl : (ex g N β x).length ≤ 100) (hN : N + 12 ≤ 40000) (hp : rs σ 1034 0 + 12 ≤ 40000) (hz : zu g N + 26 ≤ 20000) (s0 : 0 ≤ s) (s1 : s < tS T)
    (hq : ∀ b σ1, mT σ1 g N β → sq gvF σ σ1 → kpp σ σ1 N → rs σ1 1034 0 = rs σ 1034 0 → bse b (canP T (rs σ 1015 0) (rs σ 1016 0) g N E x s) → Q b σ1) :
    ∀ (j k : Nat) (b : Int) (σ1 : jS), ((k + j : Nat) : Int) = tG T → mT σ1 g N β → sq gvF σ σ1 → kpp σ σ1 N → rs σ1 1034 0 = rs σ 1034 0 → bse b (fun c => c < (k : Nat) ∧ canP T (rs σ 1015 0) (rs σ 1016 0) g N E x s c) → J n c_Model_candidatesOf (some .int) 23 [some (jo 1 0), some (ji x), some (ji s), some (ji b), some (ji (β.length : Nat)), some (ji N), some (ji (rs σ 1034 0)), some (ji (k : Nat))] [] σ1 (qI Q) := by
  have hzk := h.2.1
  have hbk := h.2.2.1
  have hG := hx.1.2.2.2.1
  have hS := hx.1.2.1
  intro j
  induction j with
  | zero =>
    intro k b σ1 hk f1 f2 f3 f4 hb
    have hx1 := hx.sq f2 (by decide)
    refine wp_Model_candidatesOf_23 ⟨by omega, ?_⟩
    rw [if_pos (by rw [hx1.2.2.1]; omega)]
    refine hq b σ1 f1 f2 f3 f4 ⟨hb.1, fun c c0 c1 => ?_⟩
    rw [hb.2 c c0 c1]
    exact ⟨fun q => q.2, fun q => ⟨by have := q.2.1; omega, q⟩⟩
  | succ j ih =>
    intro k b σ1 hk f1 f2 f3 f4 hb
    have hx1 := hx.sq f2 (by decide)
    have l9 := mln_at f1.1 1009 24 (by decide)
    have hkG : ((k : Nat) : Int) < tG T := by omega
    have hg := hx1.2.2.2.2.1 k (by omega) hkG
    have e15 : rs σ1 1015 0 = rs σ 1015 0 := f2.nrs 1015 0 (by decide)
    have e16 : rs σ1 1016 0 = rs σ 1016 0 := f2.nrs 1016 0 (by decide)
    -- on to the next one
    have next0 : ∀ σ2, mT σ2 g N β → sq gvF σ σ2 → kpp σ σ2 N → rs σ2 1034 0 = rs σ 1034 0 → ¬ canP T (rs σ 1015 0) (rs σ 1016 0) g N E x s k → J n c_Model_candidatesOf (some .int) 23 [some (jo 1 0), some (ji x), some (ji s), some (ji b), some (ji (β.length : Nat)), some (ji N), some (ji (rs σ 1034 0)), some (ji ((k : Nat) + 1))] [] σ2 (qI Q) := fun σ2 c1 c2 c3 c4 c5 => by
      refine ih (k + 1) b σ2 (by omega) c1 c2 c3 c4 ⟨hb.1, fun c d0 d1 => ?_⟩
      rw [hb.2 c d0 d1]
      refine ⟨fun q => ⟨by omega, q.2⟩, fun q => ⟨?_, q.2⟩⟩
      rcases Int.lt_or_le c k with w | w
      · exact w
      · have : c = k := by omega
        rw [this] at q
        exact absurd q.2 c5
    refine wp_Model_candidatesOf_23 ⟨by omega, ?_⟩
    rw [if_neg (by rw [hx1.2.2.1]; omega)]
    refine ⟨by omega, by omega, by omega, ?_⟩
    rw [hg.1]
    by_cases qs : tH T k = s
    · rw [if_neg (fun w => w qs), e15]
      refine ⟨by omega, t_has (by omega) (by omega) ?_⟩
      by_cases qo : tb (rs σ 1015 0) k = true
      · unfold has1
        rw [if_pos qo, if_pos (by decide)]
        exact ⟨⟨by omega, by omega⟩, next0 σ1 f1 f2 f3 f4 (fun w => w.2.2.2.1 qo)⟩
      · unfold has1
        rw [if_neg qo, if_neg (by decide), e16]
        refine t_has (by omega) (by omega) ?_
        unfold has1
        by_cases qh : tb (rs σ 1016 0) s = true
        · rw [if_pos qh, if_neg (by decide)]
          exact ⟨⟨by omega, by omega⟩, next0 σ1 f1 f2 f3 f4 (fun w => w.2.2.2.2.1 qh)⟩
        · rw [if_neg qh, if_pos rfl]
          have hrow := (hx.1.2.2.2.2.2 k (by omega) hkG).2.2.2.2 0 (hx.1.2.2.2.2.2 k (by omega) hkG).2.2.1
          refine t_layGiven0 (by omega) f1 hx1 (by omega) hkG hN (by omega) hz (fun σ2 hl => ?_)
          obtain ⟨a1, a2, a3, a4, a5, a6, a7, a8⟩ := hl
          have hrt := lay_root a8 hrow.1
          have hNle := a8.1
          have hag := a8.2.2.1
          have hrep : rep _ _ β E := rep_ext hag hNle hzk a8.2.2.2.1 hE hr
          have hxl2 : (ex (layR (tR T k 0) g N (fun _ => -1)).1 (layR (tR T k 0) g N (fun _ => -1)).2.1 β x).length ≤ 100 := by
            rw [ex_ext hag hNle hzk a8.2.2.2.1 hbk hr.2.1 x x0 x1]; exact hxl
          have hrl := lay_exlen a8 hrow.1 hbk hrep.1 hrep.2.1
          obtain ⟨R1, p1, p2, p3, p4⟩ := sml_ex a8.2.2.2.1 hrep.1 hrep.2.1 _ hrt.1 hrt.2.1
          obtain ⟨R2, u1, u2, u3, u4⟩ := sml_ex a8.2.2.2.1 hrep.1 hrep.2.1 x x0 (by omega)
          have hrw := hrow.2.2
          have hRl : (R1 ++ R2).length ≤ 200 := by rw [List.length_append]; omega
          refine t_isUnified (Rs := R1 ++ R2) (by omega) hRl a1 hrep.2.1 (sml_app p2 u2) hrt.1 hrt.2.1 x0 (by omega) (List.mem_append_left _ p1) (List.mem_append_right _ u1) (fun bb new σ3 c1 c2 c3 => ?_)
          have hcan : (bb = 1 ∧ canP T (rs σ 1015 0) (rs σ 1016 0) g N E x s k) ∨ (bb = 0 ∧ ¬ canP T (rs σ 1015 0) (rs σ 1016 0) g N E x s k) := by
            rcases c3 with ⟨e, d1, d2, -, d3⟩ | ⟨e, d3⟩
            · refine Or.inl ⟨e, by omega, hkG, qs, qo, qh, (lay_uni a8 hrow.1 hzk hE x0 x1).mp ?_⟩
              have hsol := ex_sol c1.2.1 c1.2.2.1 d1
              have := (d3 _).mp hsol
              exact ⟨_, (hrep.2.2 _).mp this.1, this.2⟩
            · refine Or.inr ⟨e, fun w => ?_⟩
              obtain ⟨ρ, w1, w2⟩ := (lay_uni a8 hrow.1 hzk hE x0 x1).mpr w.2.2.2.2.2
              exact d3 ρ ((hrep.2.2 ρ).mpr w1) w2
          have back : ∀ b2, bse b2 (fun c => c < ((k + 1 : Nat) : Int) ∧ canP T (rs σ 1015 0) (rs σ 1016 0) g N E x s c) → TrV (n - 1) i_Model_untie [jo 1 0, ji (β.length : Nat)] σ3 (fun zs21 => (∀ zs23, zs23 = ws zs21 1033 0 N → (∀ zs24, zs24 = ws zs23 1034 0 (rs σ 1034 0) → i32 (((k : Nat) : Int) + 1) ∧ J n c_Model_candidatesOf (some .int) 23 [some (jo 1 0), some (ji x), some (ji s), some (ji b2), some (ji (β.length : Nat)), some (ji N), some (ji (rs σ 1034 0)), some (ji (((k : Nat) : Int) + 1))] [] zs24 (qI Q)))) := by
            intro b2 hb2
            refine wp_Model_untie (t_untie new σ3 c1 (fun σ4 m1 m2 => fun s23 e23 s24 e24 => ⟨⟨by omega, by omega⟩, ?_⟩))
            have k4 : kpp σ1 σ4 N := (a4.tr (kpp.of c2 (by decide)) (Int.le_refl _)).tr (kpp.of m2 (by decide)) (Int.le_refl _)
            have hm : mT s24 g N β := by
              rw [e24, e23]
              exact mT_low f1 m1 hag hNle k4 f4.symm
            have hs : sq gvF σ1 s24 := by
              rw [e24, e23]
              exact ((((a3.mo (by decide)).tr (c2.mo (by decide))).tr (m2.mo (by decide))).pws 1033 0 _ (by decide)).pws 1034 0 _ (by decide)
            refine ih (k + 1) b2 s24 (by omega) hm (f2.tr hs) (fun m m0 m1' => ?_) (by rw [e24, rs_ws, if_pos ⟨rfl, rfl⟩]) hb2
            rw [← f3 m m0 m1', ← k4 m m0 m1', e24, e23]
            rfl
          rcases hcan with ⟨e, w⟩ | ⟨e, w⟩
          · rw [if_neg (by omega)]
            refine back _ ⟨i32_bOr _ _, fun c d0 d1 => ?_⟩
            rw [tb_or, tb_one (by omega) (by omega) d0, Bool.or_eq_true, hb.2 c d0 d1, decide_eq_true_eq]
            constructor
            · rintro (⟨y1, y2⟩ | y)
              · exact ⟨by omega, y2⟩
              · rw [y]; exact ⟨by omega, w⟩
            · rintro ⟨y1, y2⟩
              by_cases y : c = k
              · exact Or.inr y
              · exact Or.inl ⟨by omega, y2⟩
          · rw [if_pos e]
            refine back _ ⟨i32_bOr _ _, fun c d0 d1 => ?_⟩
            rw [tb_or, tb_0, Bool.or_false, hb.2 c d0 d1]
            refine ⟨fun q => ⟨by omega, q.2⟩, fun q => ⟨?_, q.2⟩⟩
            rcases Int.lt_or_le c k with y | y
            · exact y
            · have : c = k := by omega
              rw [this] at q
              exact absurd q.2 w
    · rw [if_pos qs]
      exact ⟨⟨by omega, by omega⟩, next0 σ1 f1 f2 f3 f4 (fun w => qs w.2.2.1)⟩
theorem t_cands {Q : Int → jS → Prop} {s : Int} (hn : 3 ≤ n) (h : mT σ g N β) (hx : mTx σ T) (hr : rep g N β E) (hE : eok N E) (x0 : 0 ≤ x) (x1 : x < N) (hxl : (ex g N β x).length ≤ 100) (hN : N + 12 ≤ 40000) (hp : rs σ 1034 0 + 12 ≤ 40000) (hz : zu g N + 26 ≤ 20000) (s0 : 0 ≤ s) (s1 : s < tS T)
    (hq : ∀ b σ1, mT σ1 g N β → sq gvF σ σ1 → kpp σ σ1 N → rs σ1 1034 0 = rs σ 1034 0 → bse b (canP T (rs σ 1015 0) (rs σ 1016 0) g N E x s) → Q b σ1) : TrI n i_Model_candidatesOf [jo 1 0, ji x, ji s] σ Q := by
  obtain ⟨m, hm⟩ := Int.eq_ofNat_of_zero_le hx.1.2.2.1
  refine wp_Model_candidatesOf ⟨by omega, ?_⟩
  rw [h.2.2.2.2.2.2.2.2.2.2.2.1, h.2.2.2.1]
  exact t_cands23 hn h hx hr hE x0 x1 hxl hN hp hz s0 s1 hq m 0 0 σ (by rw [Nat.zero_add]; exact hm.symm) h (sq.rf _ σ) (kpp.rf _ _) rfl ⟨⟨by decide, by decide⟩, fun c c0 c1 => by
    rw [tb_0]
    exact ⟨fun q => (by cases q), fun q => absurd q.1 (by omega)⟩⟩
end ZCa
