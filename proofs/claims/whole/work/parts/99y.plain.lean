/-! Plain questions: the tape's end, the place of a fault, what there is, what a scope is. -/
def smZ (f : Int → Int) : Nat → Int
  | 0 => 0
  | k + 1 => smZ f k + f ((k : Nat) : Int)
theorem smZ_cg {f g : Int → Int} : ∀ {n : Nat}, (∀ k : Nat, k < n → f ((k : Nat) : Int) = g ((k : Nat) : Int)) → smZ f n = smZ g n := by
  intro n
  induction n with
  | zero => intro _; rfl
  | succ n ih =>
    intro h
    show smZ f n + f _ = smZ g n + g _
    rw [ih (fun k hk => h k (by omega)), h n (by omega)]
theorem smZ_rng {f : Int → Int} {b : Int} : ∀ {n : Nat}, (∀ k : Nat, k < n → 0 ≤ f ((k : Nat) : Int) ∧ f ((k : Nat) : Int) ≤ b) → 0 ≤ smZ f n ∧ smZ f n ≤ b * ((n : Nat) : Int) := by
  intro n
  induction n with
  | zero => intro _; exact ⟨Int.le_refl _, by show (0 : Int) ≤ b * ((0 : Nat) : Int); rw [Int.mul_comm]; simp⟩
  | succ n ih =>
    intro h
    obtain ⟨a1, a2⟩ := ih (fun k hk => h k (by omega))
    have := h n (by omega)
    show 0 ≤ smZ f n + f _ ∧ smZ f n + f _ ≤ b * (((n + 1 : Nat) : Int))
    have e : b * (((n + 1 : Nat) : Int)) = b * ((n : Nat) : Int) + b := by rw [show (((n + 1 : Nat) : Int)) = ((n : Nat) : Int) + 1 by omega, Int.mul_add, Int.mul_one]
    rw [e]
    omega
theorem smZ_more {f : Int → Int} {m : Nat} : ∀ {n : Nat}, m ≤ n → (∀ k : Nat, m ≤ k → k < n → f ((k : Nat) : Int) = 0) → smZ f n = smZ f m := by
  intro n
  induction n with
  | zero => intro h _; rw [show m = 0 by omega]
  | succ n ih =>
    intro h h0
    by_cases q : m = n + 1
    · rw [q]
    · show smZ f n + f _ = _
      rw [ih (by omega) (fun k h1 h2 => h0 k h1 (by omega)), h0 n (by omega) (by omega)]
      omega
theorem tbn_sm (x : Int) : ∀ m : Nat, tbn m x = smZ (fun k => if tb x k = true then 1 else 0) m := by
  intro m
  induction m with
  | zero => rfl
  | succ m ih =>
    show tbn m x + _ = smZ _ m + _
    rw [ih]
/-- what is(what) answers -/
def isV (T : zT) (M : zM) (D : List Int) (O U w : Int) : Int := if w = 0 then tS T else if w = 1 then tG T else if w = 2 then O else if w = 3 then U else if w = 4 then ((M.length : Nat) : Int) else if w = 5 then ((D.length : Nat) : Int) else if w = 6 then smZ (tN T) (tG T).toNat else -1
/-- how many given ones lie right in a scope; how many scopes -/
def ownV (T : zT) (k : Int) : Int := smZ (fun g => if tH T g = k then 1 else 0) (tG T).toNat
def kidV (T : zT) (k : Int) : Int := smZ (fun s => if tA T s = k then 1 else 0) (tS T).toNat
def scV (T : zT) (k w : Int) : Int := if ¬ (0 ≤ k ∧ k < tS T) then -2 else if w = 0 then tA T k else if w = 1 then ownV T k else if w = 2 then tL T k else if w = 3 then kidV T k else -2
section ZPl
variable {n : Nat} {σ0 σ σ1 : jS} {D : List Int} {T : zT} {M : zM} {O U : Int}
theorem c_end {Q : Int → jS → Prop} {v : Int} (hC : cC σ) (hD : cTp σ D) (hq0 : ¬ (0 ≤ v ∧ v ≤ ((D.length : Nat) : Int)) → Q (-1) σ) (hq1 : 0 ≤ v → v ≤ ((D.length : Nat) : Int) → ∀ σ', sq [(8000, 0)] σ σ' → cTp σ' (D.take v.toNat) → Q v σ') : TrI n i_Top_end [jo 12 0, ji v] σ Q := by
  have v0 := hD.1
  have t12 := cC_at hC 12000 0 0 (by decide)
  refine wp_Top_end ?_
  by_cases q : v < 0
  · rw [if_pos q]; exact hq0 (by omega)
  · rw [if_neg q, t12, v0]
    refine ⟨by omega, by omega, ?_⟩
    by_cases q2 : v ≤ ((D.length : Nat) : Int)
    · rw [if_pos q2]
      intro s3 e3
      have f3 : sq [(8000, 0)] σ s3 := by rw [e3]; exact (sq.rf _ σ).pws 8000 0 _ (by decide)
      obtain ⟨h1, h2, h3, h4⟩ := hD
      refine hq1 (by omega) q2 s3 f3 ⟨by rw [e3, rs_ws, if_pos ⟨rfl, rfl⟩, List.length_take]; omega, by rw [List.length_take]; omega, fun i hi => ?_, fun b hb => h4 b (List.mem_of_mem_take hb)⟩
      rw [List.length_take] at hi
      rw [f3.nra 8002 0 _ (by decide), h3 i (by omega), List.getD_eq_getElem?_getD, List.getD_eq_getElem?_getD, List.getElem?_take_of_lt (by omega)]
    · rw [if_neg q2]; exact hq0 (by omega)
theorem t_end {Q : Int → jS → Prop} {v : Int} (hn : 1 ≤ n) (hD : mTp σ D) (hq0 : ¬ (0 ≤ v ∧ v ≤ ((D.length : Nat) : Int)) → Q (-1) σ) (hq1 : 0 ≤ v → v ≤ ((D.length : Nat) : Int) → ∀ σ', sq [(1001, 0)] σ σ' → mTp σ' (D.take v.toNat) → Q v σ') : TrI n i_Model_end [jo 1 0, ji v] σ Q := by
  have v0 := hD.1
  refine wp_Model_end ⟨by omega, by omega, wp_Model_isIn ?_⟩
  rw [v0]
  by_cases q : v < 0
  · rw [if_pos q, if_neg (by decide)]; exact hq0 (by omega)
  · rw [if_neg q]
    by_cases q2 : v ≤ ((D.length : Nat) : Int)
    · rw [if_neg (by omega), if_pos (by decide)]
      intro s3 e3
      have f3 : sq [(1001, 0)] σ s3 := by rw [e3]; exact (sq.rf _ σ).pws 1001 0 _ (by decide)
      obtain ⟨h1, h2, h3, h4⟩ := hD
      refine hq1 (by omega) q2 s3 f3 ⟨by rw [e3, rs_ws, if_pos ⟨rfl, rfl⟩, List.length_take]; omega, by rw [List.length_take]; omega, fun i hi => ?_, fun b hb => h4 b (List.mem_of_mem_take hb)⟩
      rw [List.length_take] at hi
      rw [f3.nra 1000 0 _ (by decide), h3 i (by omega), List.getD_eq_getElem?_getD, List.getD_eq_getElem?_getD, List.getElem?_take_of_lt (by omega)]
    · rw [if_pos (by omega), if_neg (by decide)]; exact hq0 (by omega)
theorem c_is {Q : Int → jS → Prop} {w : Int} (hn : 1 ≤ n) (hZ : cZ σ T M) (hD : cTp σ D) (hO : rs σ 12009 0 = O) (hU : rs σ 12010 0 = U) (hq : Q (isV T M D O U w) σ) : TrI n i_Top_is [jo 12 0, ji w] σ Q := by
  obtain ⟨z1, z2, z3, z4, z5, z6, z7⟩ := hZ
  have t120 := cC_at z2 12000 0 0 (by decide)
  have t127 := cC_at z2 12007 0 0 (by decide)
  have t71 := cC_at z2 7001 0 0 (by decide)
  obtain ⟨p1, tx, p2, p3, p4, p5, p6, p7, p8, p9⟩ := z3
  have v0 := hD.1
  have v5 := z4.1
  unfold isV at hq
  refine wp_Top_is ?_
  rw [p4, p5, p6, hO, hU, t127, t71, t120, v0, v5]
  by_cases q0 : w = 0
  · rw [if_pos q0] at hq ⊢; exact ⟨by omega, by omega, hq⟩
  rw [if_neg q0] at hq ⊢
  by_cases q1 : w = 1
  · rw [if_pos q1] at hq ⊢; exact ⟨by omega, by omega, hq⟩
  rw [if_neg q1] at hq ⊢
  by_cases q2 : w = 2
  · rw [if_pos q2] at hq ⊢; exact ⟨by omega, hq⟩
  rw [if_neg q2] at hq ⊢
  by_cases q3 : w = 3
  · rw [if_pos q3] at hq ⊢; exact ⟨by omega, hq⟩
  rw [if_neg q3] at hq ⊢
  by_cases q4 : w = 4
  · rw [if_pos q4] at hq ⊢; exact ⟨by omega, by omega, by omega, hq⟩
  rw [if_neg q4] at hq ⊢
  by_cases q5 : w = 5
  · rw [if_pos q5] at hq ⊢; exact ⟨by omega, by omega, hq⟩
  rw [if_neg q5] at hq ⊢
  by_cases q6 : w = 6
  · rw [if_pos q6] at hq ⊢
    refine ⟨by omega, by omega, by omega, ?_⟩
    have l6 : rl σ 10006 tx = 24 := by rcases p2 with w | w <;> rw [w]; exact cln_at z1 10006 0 24 (by decide); exact cln_at z1 10006 1 24 (by decide)
    have hG := p1.2.2.2.1
    have hG0 := p1.2.2.1
    have loop : ∀ (d i : Nat), ((i : Nat) : Int) + ((d : Nat) : Int) = tG T → J (n - 1) c_Text_needsInAll (some .int) 4 [some (jo 10 tx), some (ji (smZ (tN T) i)), some (ji ((i : Nat) : Int))] [] σ (qI Q) := by
      intro d
      induction d with
      | zero =>
        intro i hi
        refine wp_Text_needsInAll_4 ⟨by omega, ?_⟩
        rw [if_pos (by omega)]
        rw [show (tG T).toNat = i by omega] at hq
        exact hq
      | succ d ih =>
        intro i hi
        refine wp_Text_needsInAll_4 ⟨by omega, ?_⟩
        have hN : ∀ k : Nat, k < i + 1 → 0 ≤ tN T ((k : Nat) : Int) ∧ tN T ((k : Nat) : Int) ≤ 4 := fun k hk => by
          have := p1.2.2.2.2.2 ((k : Nat) : Int) (by omega) (by omega)
          exact ⟨this.2.2.1, this.2.2.2.1⟩
        have b1 := smZ_rng (f := tN T) (b := 4) (n := i) (fun k hk => hN k (by omega))
        have b2 := hN i (by omega)
        rw [if_neg (by omega), l6, (p9 ((i : Nat) : Int) (by omega) (by omega)).2.1]
        refine ⟨by omega, by omega, by omega, ⟨by omega, by omega⟩, ⟨by omega, by omega⟩, ?_⟩
        exact ih (i + 1) (by omega)
    exact wp_Text_needsInAll (loop (tG T).toNat 0 (by omega))
  · rw [if_neg q6] at hq ⊢; exact hq
theorem t_is {Q : Int → jS → Prop} {w : Int} (hm : mln σ) (hT : mTx σ T) (hM : mMem σ M) (hD : mTp σ D) (hO : rs σ 1015 0 = O) (hU : rs σ 1016 0 = U) (hq : Q (isV T M D O U w) σ) : TrI n i_Model_is [jo 1 0, ji w] σ Q := by
  obtain ⟨p1, p2, p3, p4, p5, p6⟩ := hT
  have v0 := hD.1
  have v5 := hM.1
  unfold isV at hq
  refine wp_Model_is ?_
  rw [p2, p3, hO, hU, v0, v5]
  by_cases q0 : w = 0
  · rw [if_pos q0] at hq ⊢; exact ⟨by omega, hq⟩
  rw [if_neg q0] at hq ⊢
  by_cases q1 : w = 1
  · rw [if_pos q1] at hq ⊢; exact ⟨by omega, hq⟩
  rw [if_neg q1] at hq ⊢
  by_cases q2 : w = 2
  · rw [if_pos q2] at hq ⊢; exact ⟨by omega, hq⟩
  rw [if_neg q2] at hq ⊢
  by_cases q3 : w = 3
  · rw [if_pos q3] at hq ⊢; exact ⟨by omega, hq⟩
  rw [if_neg q3] at hq ⊢
  by_cases q4 : w = 4
  · rw [if_pos q4] at hq ⊢; exact ⟨by omega, hq⟩
  rw [if_neg q4] at hq ⊢
  by_cases q5 : w = 5
  · rw [if_pos q5] at hq ⊢; exact ⟨by omega, hq⟩
  rw [if_neg q5] at hq ⊢
  by_cases q6 : w = 6
  · rw [if_pos q6] at hq ⊢
    have l6 := mln_at hm 1010 24 (by decide)
    have hG := p1.2.2.2.1
    have hG0 := p1.2.2.1
    have loop : ∀ (d i : Nat), ((i : Nat) : Int) + ((d : Nat) : Int) = tG T → J n c_Model_is (some .int) 76 [some (jo 1 0), none, some (ji (smZ (tN T) i)), some (ji ((i : Nat) : Int))] [] σ (qI Q) := by
      intro d
      induction d with
      | zero =>
        intro i hi
        refine wp_Model_is_76 ⟨by omega, ?_⟩
        rw [if_pos (by omega)]
        rw [show (tG T).toNat = i by omega] at hq
        exact hq
      | succ d ih =>
        intro i hi
        refine wp_Model_is_76 ⟨by omega, ?_⟩
        have hN : ∀ k : Nat, k < i + 1 → 0 ≤ tN T ((k : Nat) : Int) ∧ tN T ((k : Nat) : Int) ≤ 4 := fun k hk => by
          have := p1.2.2.2.2.2 ((k : Nat) : Int) (by omega) (by omega)
          exact ⟨this.2.2.1, this.2.2.2.1⟩
        have b1 := smZ_rng (f := tN T) (b := 4) (n := i) (fun k hk => hN k (by omega))
        have b2 := hN i (by omega)
        rw [if_neg (by omega), l6, (p5 ((i : Nat) : Int) (by omega) (by omega)).2.1]
        refine ⟨by omega, by omega, by omega, ⟨by omega, by omega⟩, ⟨by omega, by omega⟩, ?_⟩
        exact ih (i + 1) (by omega)
    exact loop (tG T).toNat 0 (by omega)
  · rw [if_neg q6] at hq ⊢; exact hq
/-- how many bits a set has that is told by what it holds -/
theorem bse_cnt {b : Int} {C : Int → Prop} {m : Nat} (h : bse b C) (hm : m ≤ 31) (hC : ∀ k, C k → k < ((m : Nat) : Int)) (f : Int → Int) (hf : ∀ k : Nat, k < m → (f ((k : Nat) : Int) = 1 ∧ C ((k : Nat) : Int)) ∨ (f ((k : Nat) : Int) = 0 ∧ ¬ C ((k : Nat) : Int))) : 0 ≤ b ∧ tbn 32 b = smZ f m := by
  refine ⟨tb_pos h.1 ?_, ?_⟩
  · cases q : tb b 31 with
    | false => rfl
    | true =>
      have := hC 31 ((h.2 31 (by omega) (by omega)).mp q)
      omega
  · rw [tbn_sm, smZ_more (m := m) (by omega) (fun k h1 h2 => ?_)]
    · refine smZ_cg (fun k hk => ?_)
      rcases hf k hk with ⟨w1, w2⟩ | ⟨w1, w2⟩
      · rw [w1, if_pos ((h.2 _ (by omega) (by omega)).mpr w2)]
      · rw [w1, if_neg (fun w => w2 ((h.2 _ (by omega) (by omega)).mp w))]
    · rw [if_neg (fun w => ?_)]
      have := hC _ ((h.2 _ (by omega) (by omega)).mp w)
      omega
theorem c_scope {Q : Int → jS → Prop} {k w : Int} (hn : 2 ≤ n) (hZ : cZ σ T M) (hq : Q (scV T k w) σ) : TrI n i_Top_scope [jo 12 0, ji k, ji w] σ Q := by
  obtain ⟨z1, z2, z3, z4, z5, z6, z7⟩ := hZ
  obtain ⟨p1, tx, p2, p3, p4, p5, p6, p7, p8, p9⟩ := z3
  have hS0 := p1.1
  have hS := p1.2.1
  have hG := p1.2.2.2.1
  have hG0 := p1.2.2.1
  have l2 : rl σ 10002 tx = 8 := by rcases p2 with w | w <;> rw [w]; exact cln_at z1 10002 0 8 (by decide); exact cln_at z1 10002 1 8 (by decide)
  have l3 : rl σ 10003 tx = 8 := by rcases p2 with w | w <;> rw [w]; exact cln_at z1 10003 0 8 (by decide); exact cln_at z1 10003 1 8 (by decide)
  have l4 : rl σ 10004 tx = 8 := by rcases p2 with w | w <;> rw [w]; exact cln_at z1 10004 0 8 (by decide); exact cln_at z1 10004 1 8 (by decide)
  unfold scV at hq
  refine wp_Top_scope ⟨by omega, by omega, by omega, wp_Text_hasScope ?_⟩
  rw [p4, p5]
  by_cases q : k < 0
  · rw [if_pos q, if_neg (by decide)]
    rw [if_pos (by omega)] at hq
    exact hq
  rw [if_neg q]
  refine ⟨by omega, ?_⟩
  by_cases q2 : tS T ≤ k
  · rw [if_pos q2, if_neg (by decide)]
    rw [if_pos (by omega)] at hq
    exact hq
  rw [if_neg q2, if_neg (by omega), if_pos (by decide), l2, l3, l4]
  rw [if_neg (by omega)] at hq
  obtain ⟨s1, s2, s3⟩ := p8 k (by omega) (by omega)
  by_cases q0 : w = 0
  · rw [if_pos q0] at hq ⊢
    rw [s1]
    exact ⟨by omega, by omega, by omega, by omega, hq⟩
  rw [if_neg q0] at hq ⊢
  by_cases q1 : w = 1
  · rw [if_pos q1] at hq ⊢
    have hc := bse_cnt (m := (tG T).toNat) s3 (by omega) (fun g hg => by omega) (fun g => if tH T g = k then 1 else 0) (fun g hg => by
      by_cases w : tH T ((g : Nat) : Int) = k
      · rw [if_pos w]; exact Or.inl ⟨rfl, by omega, by omega, w⟩
      · rw [if_neg w]; exact Or.inr ⟨rfl, fun h => w h.2.2⟩)
    refine ⟨by omega, by omega, by omega, by omega, t_bitCount s3.1 hc.1 ?_⟩
    rw [hc.2]
    exact hq
  rw [if_neg q1] at hq ⊢
  by_cases q22 : w = 2
  · rw [if_pos q22] at hq ⊢
    rw [s2]
    exact ⟨by omega, by omega, by omega, by omega, hq⟩
  rw [if_neg q22] at hq ⊢
  by_cases q3 : w = 3
  · rw [if_pos q3] at hq ⊢
    refine ⟨by omega, ?_⟩
    have loop : ∀ (d i : Nat), ((i : Nat) : Int) + ((d : Nat) : Int) = tS T → J (n - 1) c_Text_scopesRightIn (some .int) 4 [some (jo 10 tx), some (ji k), some (ji (smZ (fun s => if tA T s = k then 1 else 0) i)), some (ji ((i : Nat) : Int))] [] σ (qI Q) := by
      intro d
      induction d with
      | zero =>
        intro i hi
        refine wp_Text_scopesRightIn_4 ⟨by omega, ?_⟩
        rw [if_pos (by omega)]
        unfold kidV at hq
        rw [show (tS T).toNat = i by omega] at hq
        exact hq
      | succ d ih =>
        intro i hi
        refine wp_Text_scopesRightIn_4 ⟨by omega, ?_⟩
        have b1 := smZ_rng (f := fun s => if tA T s = k then 1 else 0) (b := 1) (n := i) (fun k hk => by split <;> omega)
        have nx := ih (i + 1) (by omega)
        have e1 : smZ (fun s => if tA T s = k then 1 else 0) (i + 1) = smZ (fun s => if tA T s = k then 1 else 0) i + (if tA T ((i : Nat) : Int) = k then 1 else 0) := rfl
        rw [e1] at nx
        rw [if_neg (by omega), l2, (p8 ((i : Nat) : Int) (by omega) (by omega)).1]
        refine ⟨by omega, by omega, by omega, ?_⟩
        by_cases w : tA T ((i : Nat) : Int) = k
        · rw [if_neg (fun h => h w)]
          rw [if_pos w] at nx
          exact ⟨⟨by omega, by omega⟩, ⟨by omega, by omega⟩, nx⟩
        · rw [if_pos w]
          rw [if_neg w, Int.add_zero] at nx
          exact ⟨⟨by omega, by omega⟩, nx⟩
    exact wp_Text_scopesRightIn (loop (tS T).toNat 0 (by omega))
  · rw [if_neg q3] at hq ⊢; exact hq
theorem t_scope {Q : Int → jS → Prop} {k w : Int} (hn : 2 ≤ n) (hm : mln σ) (hT : mTx σ T) (hq : Q (scV T k w) σ) : TrI n i_Model_scope [jo 1 0, ji k, ji w] σ Q := by
  obtain ⟨p1, p2, p3, p4, p5, p6⟩ := hT
  have hS0 := p1.1
  have hS := p1.2.1
  have hG := p1.2.2.2.1
  have hG0 := p1.2.2.1
  have l08 := mln_at hm 1008 8 (by decide)
  have l09 := mln_at hm 1009 24 (by decide)
  unfold scV at hq
  refine wp_Model_scope ⟨by omega, by omega, wp_Model_isScope ⟨by omega, ?_⟩⟩
  rw [p2]
  refine ⟨⟨by omega, by omega⟩, by omega, wp_Model_isIn ?_⟩
  by_cases q : k < 0
  · rw [if_pos q, if_pos rfl]
    rw [if_pos (by omega)] at hq
    exact ⟨Or.inl rfl, hq⟩
  rw [if_neg q]
  by_cases q2 : tS T ≤ k
  · rw [if_pos (by omega), if_pos rfl]
    rw [if_pos (by omega)] at hq
    exact ⟨Or.inl rfl, hq⟩
  rw [if_neg (by omega)]
  refine ⟨Or.inr rfl, ?_⟩
  rw [if_neg (by decide)]
  rw [if_neg (by omega)] at hq
  refine wp_Model_isIn ?_
  by_cases qw : w < 0
  · rw [if_pos qw, if_neg (by decide)]
    rw [if_neg (by omega), if_neg (by omega), if_neg (by omega), if_neg (by omega)] at hq
    exact hq
  rw [if_neg qw]
  by_cases qw3 : 3 < w
  · rw [if_pos qw3, if_neg (by decide)]
    rw [if_neg (by omega), if_neg (by omega), if_neg (by omega), if_neg (by omega)] at hq
    exact hq
  rw [if_neg qw3, if_pos (by decide), l08]
  by_cases q0 : w = 0
  · rw [if_pos q0] at hq ⊢
    rw [p4 k (by omega) (by omega)]
    exact ⟨by omega, by omega, by omega, hq⟩
  rw [if_neg q0] at hq ⊢
  by_cases q1 : w = 1
  · rw [if_pos q1] at hq ⊢
    have loop : ∀ (d i : Nat), ((i : Nat) : Int) + ((d : Nat) : Int) = tG T → J n c_Model_scope (some .int) 58 [some (jo 1 0), some (ji k), none, some (ji (smZ (fun g => if tH T g = k then 1 else 0) i)), some (ji ((i : Nat) : Int))] [] σ (qI Q) := by
      intro d
      induction d with
      | zero =>
        intro i hi
        refine wp_Model_scope_58 ⟨by omega, ?_⟩
        rw [if_pos (by omega)]
        unfold ownV at hq
        rw [show (tG T).toNat = i by omega] at hq
        exact hq
      | succ d ih =>
        intro i hi
        refine wp_Model_scope_58 ⟨by omega, ?_⟩
        have b1 := smZ_rng (f := fun g => if tH T g = k then 1 else 0) (b := 1) (n := i) (fun k hk => by split <;> omega)
        have nx := ih (i + 1) (by omega)
        have e1 : smZ (fun g => if tH T g = k then 1 else 0) (i + 1) = smZ (fun g => if tH T g = k then 1 else 0) i + (if tH T ((i : Nat) : Int) = k then 1 else 0) := rfl
        rw [e1] at nx
        rw [if_neg (by omega), l09, (p5 ((i : Nat) : Int) (by omega) (by omega)).1]
        refine ⟨by omega, by omega, by omega, ?_⟩
        by_cases w : tH T ((i : Nat) : Int) = k
        · rw [if_neg (fun h => h w)]
          rw [if_pos w] at nx
          exact ⟨⟨by omega, by omega⟩, ⟨by omega, by omega⟩, nx⟩
        · rw [if_pos w]
          rw [if_neg w] at nx
          exact ⟨⟨by omega, by omega⟩, ⟨by omega, by omega⟩, nx⟩
    exact loop (tG T).toNat 0 (by omega)
  rw [if_neg q1] at hq ⊢
  by_cases q22 : w = 2
  · rw [if_pos q22] at hq ⊢
    have lv : ∀ (d : Nat) (s c : Int), (s = -1 ∧ c = tL T k) ∨ (0 ≤ s ∧ s < tS T ∧ tL T s = ((d : Nat) : Int) ∧ c + ((d : Nat) : Int) + 1 = tL T k) → 0 ≤ c → c ≤ 5 → J (n - 1) c_Model_liesIn (some .int) 9 [some (jo 1 0), none, some (ji c), some (ji s)] [] σ (qI Q) := by
      intro d
      induction d with
      | zero =>
        intro s c h c0 c5
        refine wp_Model_liesIn_9 ?_
        rcases h with ⟨h1, h2⟩ | ⟨h1, h2, h3, h4⟩
        · rw [if_pos h1, h2]; exact hq
        · have hk := p1.2.2.2.2.1 s h1 h2
          rw [if_neg (by omega), l08, p4 s h1 h2]
          refine ⟨⟨by omega, by omega⟩, by omega, by omega, by omega, by omega, ?_⟩
          have e1 : tA T s = -1 := by
            rcases hk.1 with w | w
            · exact w.1
            · have := p1.2.2.2.2.1 (tA T s) w.1 (by omega)
              omega
          rw [e1]
          refine wp_Model_liesIn_9 ?_
          rw [if_pos rfl, show c + 1 = tL T k by omega]
          exact hq
      | succ d ih =>
        intro s c h c0 c5
        rcases h with ⟨h1, h2⟩ | ⟨h1, h2, h3, h4⟩
        · exact ih s c (Or.inl ⟨h1, h2⟩) c0 c5
        · refine wp_Model_liesIn_9 ?_
          have hk := p1.2.2.2.2.1 s h1 h2
          rw [if_neg (by omega), l08, p4 s h1 h2]
          refine ⟨⟨by omega, by omega⟩, by omega, by omega, by omega, by omega, ?_⟩
          have hkk := p1.2.2.2.2.1 k (by omega) (by omega)
          rcases hk.1 with w | w
          · omega
          · exact ih (tA T s) (c + 1) (Or.inr ⟨w.1, by omega, by omega, by omega⟩) (by omega) (by omega)
    refine wp_Model_liesIn ⟨by omega, by omega, by omega, by omega, ?_⟩
    rw [p4 k (by omega) (by omega)]
    have hk := p1.2.2.2.2.1 k (by omega) (by omega)
    rcases hk.1 with ⟨w1, w2⟩ | ⟨w1, w2, w3⟩
    · exact lv 0 (tA T k) 0 (Or.inl ⟨w1, w2.symm⟩) (by omega) (by omega)
    · have hk2 := p1.2.2.2.2.1 (tA T k) w1 (by omega)
      exact lv (tL T (tA T k)).toNat (tA T k) 0 (Or.inr ⟨w1, by omega, by omega, by omega⟩) (by omega) (by omega)
  rw [if_neg q22] at hq ⊢
  rw [if_pos (by omega)] at hq
  have loop : ∀ (d i : Nat), ((i : Nat) : Int) + ((d : Nat) : Int) = tS T → J n c_Model_scope (some .int) 103 [some (jo 1 0), some (ji k), none, some (ji (smZ (fun s => if tA T s = k then 1 else 0) i)), some (ji ((i : Nat) : Int))] [] σ (qI Q) := by
    intro d
    induction d with
    | zero =>
      intro i hi
      refine wp_Model_scope_103 ⟨by omega, ?_⟩
      rw [if_pos (by omega)]
      unfold kidV at hq
      rw [show (tS T).toNat = i by omega] at hq
      exact hq
    | succ d ih =>
      intro i hi
      refine wp_Model_scope_103 ⟨by omega, ?_⟩
      have b1 := smZ_rng (f := fun s => if tA T s = k then 1 else 0) (b := 1) (n := i) (fun k hk => by split <;> omega)
      have nx := ih (i + 1) (by omega)
      have e1 : smZ (fun s => if tA T s = k then 1 else 0) (i + 1) = smZ (fun s => if tA T s = k then 1 else 0) i + (if tA T ((i : Nat) : Int) = k then 1 else 0) := rfl
      rw [e1] at nx
      rw [if_neg (by omega), l08, p4 ((i : Nat) : Int) (by omega) (by omega)]
      refine ⟨by omega, by omega, by omega, ?_⟩
      by_cases w : tA T ((i : Nat) : Int) = k
      · rw [if_neg (fun h => h w)]
        rw [if_pos w] at nx
        exact ⟨⟨by omega, by omega⟩, ⟨by omega, by omega⟩, nx⟩
      · rw [if_pos w]
        rw [if_neg w] at nx
        exact ⟨⟨by omega, by omega⟩, ⟨by omega, by omega⟩, nx⟩
  exact loop (tS T).toNat 0 (by omega)
end ZPl
