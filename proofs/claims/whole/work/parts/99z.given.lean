/-! Plain questions: what a given one is. -/
/-- the letters of some types of a given one -/
def vsG (T : zT) (k : Int) (a b : Nat) (v : Int) : Prop := 0 ≤ v ∧ v < 26 ∧ ∃ i : Nat, a ≤ i ∧ i ≤ b ∧ -1 - v ∈ tR T k i
/-- what given(k, w) answers -/
def gvP (T : zT) (k w v : Int) : Prop := if ¬ (0 ≤ k ∧ k < tG T) then v = -1 else if w = 0 then v = tH T k else if w = 1 then v = tN T k else if w = 2 then ∃ b, bse b (vsG T k 0 (tN T k).toNat) ∧ v = tbn 32 b else if w = 3 then v = (((tR T k 0).length : Nat) : Int) else if w = 4 then v = smZ (fun i => (((tR T k (i.toNat + 1)).length : Nat) : Int)) (tN T k).toNat else if w = 5 then ∃ b, bse b (fun v => vsG T k 1 (tN T k).toNat v ∧ ¬ vsG T k 0 0 v) ∧ v = tbn 32 b else v = -1
theorem bse_uni {b b' : Int} {C : Int → Prop} (h : bse b C) (h' : bse b' C) : b = b' := tb_ext h.1 h'.1 (fun k k0 k1 => by
  have a := h.2 k k0 k1
  have c := h'.2 k k0 k1
  cases p : tb b k <;> cases q : tb b' k <;> simp_all)
theorem bse_iff {b : Int} {C C' : Int → Prop} (h : bse b C) (hC : ∀ k, 0 ≤ k → k < 32 → (C k ↔ C' k)) : bse b C' := ⟨h.1, fun k k0 k1 => (h.2 k k0 k1).trans (hC k k0 k1)⟩
theorem bse_or1 {b v : Int} {C : Int → Prop} (h : bse b C) (v0 : 0 ≤ v) (v1 : v < 32) : bse (bOr b (bShl 1 v)) (fun k => C k ∨ k = v) := ⟨i32_bOr _ _, fun k k0 k1 => by
  rw [tb_or, tb_one v0 v1 k0, Bool.or_eq_true, h.2 k k0 k1, decide_eq_true_iff]⟩
theorem bse_or {b c : Int} {C E : Int → Prop} (h : bse b C) (h' : bse c E) : bse (bOr b c) (fun k => C k ∨ E k) := ⟨i32_bOr _ _, fun k k0 k1 => by
  rw [tb_or, Bool.or_eq_true, h.2 k k0 k1, h'.2 k k0 k1]⟩
theorem bse_no {b c : Int} {C E : Int → Prop} (h : bse b C) (h' : bse c E) : bse (bAnd b (bXor c (-1))) (fun k => C k ∧ ¬ E k) := ⟨i32_bAnd _ _, fun k k0 k1 => by
  rw [tb_and, tb_xor, tb_m1 k1, Bool.and_eq_true, h.2 k k0 k1, Bool.xor_true, Bool.not_eq_true', ← Bool.not_eq_true, h'.2 k k0 k1]⟩
theorem bse_0 {C : Int → Prop} (h : ∀ k, ¬ C k) : bse 0 C := ⟨i32_0, fun k _ _ => ⟨(fun w => by rw [tb_0] at w; cases w), fun w => absurd w (h k)⟩⟩
theorem bse_pos {b : Int} {C : Int → Prop} (h : bse b C) (h31 : ¬ C 31) : 0 ≤ b ∧ b < 2147483648 := ⟨tb_pos h.1 (by
  cases q : tb b 31 with
  | false => rfl
  | true => exact absurd ((h.2 31 (by omega) (by omega)).mp q) h31), by have := h.1.2; omega⟩
theorem gvP_uni {T : zT} {k w v v' : Int} (h : gvP T k w v) (h' : gvP T k w v') : v = v' := by
  unfold gvP at h h'
  by_cases q : ¬ (0 ≤ k ∧ k < tG T)
  · rw [if_pos q] at h h'; omega
  rw [if_neg q] at h h'
  by_cases q0 : w = 0
  · rw [if_pos q0] at h h'; omega
  rw [if_neg q0] at h h'
  by_cases q1 : w = 1
  · rw [if_pos q1] at h h'; omega
  rw [if_neg q1] at h h'
  by_cases q2 : w = 2
  · rw [if_pos q2] at h h'
    obtain ⟨b, hb, e⟩ := h
    obtain ⟨b', hb', e'⟩ := h'
    rw [e, e', bse_uni hb hb']
  rw [if_neg q2] at h h'
  by_cases q3 : w = 3
  · rw [if_pos q3] at h h'; omega
  rw [if_neg q3] at h h'
  by_cases q4 : w = 4
  · rw [if_pos q4] at h h'; omega
  rw [if_neg q4] at h h'
  by_cases q5 : w = 5
  · rw [if_pos q5] at h h'
    obtain ⟨b, hb, e⟩ := h
    obtain ⟨b', hb', e'⟩ := h'
    rw [e, e', bse_uni hb hb']
  rw [if_neg q5] at h h'
  omega
section ZGv
variable {n : Nat} {σ0 σ σ1 : jS} {D : List Int} {T : zT} {M : zM} {O U : Int} {r : List Int}
theorem c_flen {Q : Int → jS → Prop} {o : Int} (hn : 1 ≤ n) (h : fT σ o r) (hq : Q ((r.length : Nat) : Int) σ) : TrI n i_Flat_length [jo 0 o] σ Q := by
  obtain ⟨h0, h1, h2, h3⟩ := h
  refine wp_Flat_length ⟨h0, by omega, by omega, ?_⟩
  rw [h1, show min ((r.length : Nat) : Int) (rl σ 0 o) = ((r.length : Nat) : Int) by omega]
  exact hq
/-- the letters of a row -/
theorem c_varLetters {Q : Int → jS → Prop} {o : Int} (hn : 2 ≤ n) (h : fT σ o r) (hr : ∀ t, t ∈ r → thg t) (h12 : r.length ≤ 1000) (hq : ∀ b, bse b (fun v => 0 ≤ v ∧ v < 26 ∧ -1 - v ∈ r) → Q b σ) : TrI n i_Flat_varLetters [jo 0 o] σ Q := by
  obtain ⟨h0, h1, h2, h3⟩ := h
  have loop : ∀ (d i : Nat) (b : Int), i + d = r.length → bse b (fun v => 0 ≤ v ∧ v < 26 ∧ -1 - v ∈ r.take i) → J n c_Flat_varLetters (some .int) 4 [some (jo 0 o), some (ji b), some (ji ((i : Nat) : Int))] [] σ (qI Q) := by
    intro d
    induction d with
    | zero =>
      intro i b hi hb
      refine wp_Flat_varLetters_4 ⟨h0, by omega, c_flen (by omega) ⟨h0, h1, h2, h3⟩ ?_⟩
      rw [if_pos (by omega)]
      refine hq b ?_
      rw [List.take_of_length_le (by omega)] at hb
      exact hb
    | succ d ih =>
      intro i b hi hb
      refine wp_Flat_varLetters_4 ⟨h0, by omega, c_flen (by omega) ⟨h0, h1, h2, h3⟩ ?_⟩
      have hir : i < r.length := by omega
      have et : r.getD i 0 = r[i] := by rw [List.getD_eq_getElem?_getD, List.getElem?_eq_getElem hir]; rfl
      have tg := hr _ (List.getElem_mem hir)
      have etk : r.take (i + 1) = r.take i ++ [r[i]] := by rw [List.take_add_one, List.getElem?_eq_getElem hir]; rfl
      rw [if_neg (by omega), h3 i hir, et]
      refine ⟨by omega, by omega, by omega, ?_⟩
      unfold thg at tg
      by_cases q : r[i] < 0
      · have ec : cc r[i] = 103 - r[i] := if_pos q
        rw [ec, if_neg (by omega), show 103 - r[i] - 104 = -1 - r[i] by omega]
        refine ⟨⟨by omega, by omega⟩, ⟨by omega, by omega⟩, ih (i + 1) _ (by omega) ?_⟩
        refine bse_iff (bse_or1 hb (by omega) (by omega)) (fun k k0 k1 => ?_)
        rw [etk, List.mem_append, List.mem_singleton]
        constructor
        · rintro (⟨w1, w2, w3⟩ | w)
          · exact ⟨w1, w2, Or.inl w3⟩
          · exact ⟨by omega, by omega, Or.inr (by omega)⟩
        · rintro ⟨w1, w2, w3 | w3⟩
          · exact Or.inl ⟨w1, w2, w3⟩
          · exact Or.inr (by omega)
      · have ec : cc r[i] = r[i] := if_neg q
        rw [ec, if_pos (by omega)]
        refine ⟨⟨by omega, by omega⟩, ih (i + 1) b (by omega) ?_⟩
        refine bse_iff hb (fun k k0 k1 => ?_)
        rw [etk, List.mem_append, List.mem_singleton]
        constructor
        · rintro ⟨w1, w2, w3⟩
          exact ⟨w1, w2, Or.inl w3⟩
        · rintro ⟨w1, w2, w3 | w3⟩
          · exact ⟨w1, w2, w3⟩
          · omega
  exact wp_Flat_varLetters (loop r.length 0 0 (by omega) (bse_0 (fun k w => by simp at w)))
/-- the letters of the types that a given one needs -/
theorem c_needVars {Q : Int → jS → Prop} {k tx : Int} (hn : 4 ≤ n) (hc : cln σ) (hx : cTx σ T) (htx : rs σ 12005 0 = tx) (k0 : 0 ≤ k) (k1 : k < tG T) (hq : ∀ b, bse b (vsG T k 1 (tN T k).toNat) → Q b σ) : TrI n i_Text_needVars [jo 10 tx, ji k] σ Q := by
  obtain ⟨p1, ux, p2, p3, p4, p5, p6, p7, p8, p9⟩ := hx
  have eux : ux = tx := by omega
  subst eux
  have hG := p1.2.2.2.1
  obtain ⟨b1, b2, b3, b4⟩ := p9 k k0 k1
  obtain ⟨a1, a2, a3, a4, a5⟩ := p1.2.2.2.2.2 k k0 k1
  have l6 : rl σ 10006 ux = 24 := by rcases p2 with w | w <;> rw [w]; exact cln_at hc 10006 0 24 (by decide); exact cln_at hc 10006 1 24 (by decide)
  have loop : ∀ (d i : Nat) (b : Int), ((i : Nat) : Int) + ((d : Nat) : Int) = tN T k + 1 → 1 ≤ i → bse b (fun v => 0 ≤ v ∧ v < 26 ∧ ∃ j : Nat, 1 ≤ j ∧ j < i ∧ -1 - v ∈ tR T k j) → J n c_Text_needVars (some .int) 4 [some (jo 10 ux), some (ji k), some (ji b), some (ji ((i : Nat) : Int))] [] σ (qI Q) := by
    intro d
    induction d with
    | zero =>
      intro i b hi i1 hb
      refine wp_Text_needVars_4 ⟨by omega, by omega, wp_Text_needsOf ⟨by omega, by omega, wp_Text_hasGiven ?_⟩⟩
      rw [p6, if_neg (by omega)]
      refine ⟨by omega, ?_⟩
      rw [if_neg (by omega), if_neg (by omega), if_neg (by decide), l6, b2]
      refine ⟨by omega, by omega, by omega, ?_⟩
      rw [if_pos (by omega)]
      refine hq b (bse_iff hb (fun v v0 v1 => ?_))
      constructor
      · rintro ⟨w1, w2, j, j1, j2, j3⟩
        exact ⟨w1, w2, j, j1, by omega, j3⟩
      · rintro ⟨w1, w2, j, j1, j2, j3⟩
        exact ⟨w1, w2, j, j1, by omega, j3⟩
    | succ d ih =>
      intro i b hi i1 hb
      refine wp_Text_needVars_4 ⟨by omega, by omega, wp_Text_needsOf ⟨by omega, by omega, wp_Text_hasGiven ?_⟩⟩
      rw [p6, if_neg (by omega)]
      refine ⟨by omega, ?_⟩
      rw [if_neg (by omega), if_neg (by omega), if_neg (by decide), l6, b2]
      refine ⟨by omega, by omega, by omega, ?_⟩
      rw [if_neg (by omega)]
      have hrk := a5 i (by omega)
      refine c_partFlat p2 hc p7 k0 (by omega) (by omega) ?_
      refine c_varLetters (by omega) (b3 i (by omega)) hrk.2.1 (by have := hrk.2.2; omega) (fun c hc2 => ⟨⟨by omega, by omega⟩, ih (i + 1) _ (by omega) (by omega) ?_⟩)
      refine bse_iff (bse_or hb hc2) (fun v v0 v1 => ?_)
      constructor
      · rintro (⟨w1, w2, j, j1, j2, j3⟩ | ⟨w1, w2, w3⟩)
        · exact ⟨w1, w2, j, j1, by omega, j3⟩
        · exact ⟨w1, w2, i, i1, by omega, w3⟩
      · rintro ⟨w1, w2, j, j1, j2, j3⟩
        by_cases q : j = i
        · subst q; exact Or.inr ⟨w1, w2, j3⟩
        · exact Or.inl ⟨w1, w2, j, j1, by omega, j3⟩
  exact wp_Text_needVars (loop (tN T k).toNat 1 0 (by omega) (by omega) (bse_0 (fun v w => by obtain ⟨-, -, j, j1, j2, -⟩ := w; omega)))
set_option maxRecDepth 8000 in
theorem c_given {Q : Int → jS → Prop} {k w : Int} (hn : 5 ≤ n) (hZ : cZ σ T M) (hq : ∀ v, gvP T k w v → Q v σ) : TrI n i_Top_given [jo 12 0, ji k, ji w] σ Q := by
  obtain ⟨z1, z2, z3, z4, z5, z6, z7⟩ := hZ
  have z3c := z3
  obtain ⟨p1, tx, p2, p3, p4, p5, p6, p7, p8, p9⟩ := z3
  have hG := p1.2.2.2.1
  have l5 : rl σ 10005 tx = 24 := by rcases p2 with w | w <;> rw [w]; exact cln_at z1 10005 0 24 (by decide); exact cln_at z1 10005 1 24 (by decide)
  have l6 : rl σ 10006 tx = 24 := by rcases p2 with w | w <;> rw [w]; exact cln_at z1 10006 0 24 (by decide); exact cln_at z1 10006 1 24 (by decide)
  unfold gvP at hq
  refine wp_Top_given ⟨by omega, by omega, by omega, wp_Text_hasGiven ?_⟩
  rw [p4, p6]
  by_cases q : k < 0
  · rw [if_pos q, if_neg (by decide)]
    exact hq _ (by rw [if_pos (by omega)])
  rw [if_neg q]
  refine ⟨by omega, ?_⟩
  by_cases q2 : tG T ≤ k
  · rw [if_pos q2, if_neg (by decide)]
    exact hq _ (by rw [if_pos (by omega)])
  rw [if_neg q2, if_neg (by omega), if_pos (by decide)]
  have nin : ¬ ¬ (0 ≤ k ∧ k < tG T) := fun h => h ⟨by omega, by omega⟩
  obtain ⟨b1, b2, b3, b4⟩ := p9 k (by omega) (by omega)
  obtain ⟨a1, a2, a3, a4, a5⟩ := p1.2.2.2.2.2 k (by omega) (by omega)
  have hrk := a5 0 (by omega)
  have hf0 := b3 0 (by omega)
  refine ⟨by omega, c_partFlat (i := 0) p2 z1 p7 (by omega) (by omega) (by omega) ?_⟩
  refine c_varLetters (by omega) hf0 hrk.2.1 (by have := hrk.2.2; omega) (fun c hc => ?_)
  rw [p4]
  refine ⟨by omega, c_needVars (by omega) z1 z3c p4 (by omega) (by omega) (fun b hb => ?_)⟩
  rw [p4, l5, l6, b1, b2]
  by_cases q0 : w = 0
  · rw [if_pos q0]
    exact ⟨by omega, by omega, by omega, by omega, hq _ (by rw [if_neg nin, if_pos q0])⟩
  rw [if_neg q0]
  by_cases q1 : w = 1
  · rw [if_pos q1]
    exact ⟨by omega, by omega, by omega, by omega, hq _ (by rw [if_neg nin, if_neg q0, if_pos q1])⟩
  rw [if_neg q1]
  by_cases q22 : w = 2
  · rw [if_pos q22]
    have hu : bse (bOr c b) (vsG T k 0 (tN T k).toNat) := bse_iff (bse_or hc hb) (fun v v0 v1 => by
      constructor
      · rintro (⟨w1, w2, w3⟩ | ⟨w1, w2, j, j1, j2, j3⟩)
        · exact ⟨w1, w2, 0, by omega, by omega, w3⟩
        · exact ⟨w1, w2, j, by omega, j2, j3⟩
      · rintro ⟨w1, w2, j, j1, j2, j3⟩
        by_cases qj : j = 0
        · subst qj; exact Or.inl ⟨w1, w2, j3⟩
        · exact Or.inr ⟨w1, w2, j, by omega, j2, j3⟩)
    exact t_bitCount hu.1 (bse_pos hu (fun h => by have := h.2.1; omega)).1 (hq _ (by rw [if_neg nin, if_neg q0, if_neg q1, if_pos q22]; exact ⟨_, hu, rfl⟩))
  rw [if_neg q22]
  by_cases q3 : w = 3
  · rw [if_pos q3]
    refine ⟨by omega, c_partFlat (i := 0) p2 z1 p7 (by omega) (by omega) (by omega) ?_⟩
    rw [hf0.2.1]
    exact hq _ (by rw [if_neg nin, if_neg q0, if_neg q1, if_neg q22, if_pos q3])
  rw [if_neg q3]
  by_cases q4 : w = 4
  · rw [if_pos q4]
    have loop : ∀ (d i : Nat), ((i : Nat) : Int) + ((d : Nat) : Int) = tN T k → J (n - 1) c_Text_needSizes (some .int) 4 [some (jo 10 tx), some (ji k), some (ji (smZ (fun i => (((tR T k (i.toNat + 1)).length : Nat) : Int)) i)), some (ji (((i : Nat) : Int) + 1))] [] σ (qI Q) := by
      intro d
      induction d with
      | zero =>
        intro i hi
        refine wp_Text_needSizes_4 ⟨by omega, by omega, wp_Text_needsOf ⟨by omega, by omega, wp_Text_hasGiven ?_⟩⟩
        rw [p6, if_neg (by omega)]
        refine ⟨by omega, ?_⟩
        rw [if_neg (by omega), if_neg (by omega), if_neg (by decide), l6, b2]
        refine ⟨by omega, by omega, by omega, ?_⟩
        rw [if_pos (by omega)]
        refine hq _ ?_
        rw [if_neg nin, if_neg q0, if_neg q1, if_neg q22, if_neg q3, if_pos q4, show (tN T k).toNat = i by omega]
      | succ d ih =>
        intro i hi
        refine wp_Text_needSizes_4 ⟨by omega, by omega, wp_Text_needsOf ⟨by omega, by omega, wp_Text_hasGiven ?_⟩⟩
        rw [p6, if_neg (by omega)]
        refine ⟨by omega, ?_⟩
        rw [if_neg (by omega), if_neg (by omega), if_neg (by decide), l6, b2]
        refine ⟨by omega, by omega, by omega, ?_⟩
        rw [if_neg (by omega), show ((i : Nat) : Int) + 1 = ((i + 1 : Nat) : Int) by omega]
        have hrk := (a5 (i + 1) (by omega)).2.2
        have ss := smZ_rng (f := fun i => (((tR T k (i.toNat + 1)).length : Nat) : Int)) (b := 12) (n := i) (fun j hj => by
          have := (a5 (j + 1) (by omega)).2.2
          rw [show ((j : Nat) : Int).toNat = j by omega]
          omega)
        refine c_partFlat (i := i + 1) p2 z1 p7 (by omega) (by omega) (by omega) ?_
        rw [(b3 (i + 1) (by omega)).2.1]
        refine ⟨⟨by omega, by omega⟩, ⟨by omega, by omega⟩, ?_⟩
        have nx := ih (i + 1) (by omega)
        have e1 : smZ (fun i => (((tR T k (i.toNat + 1)).length : Nat) : Int)) (i + 1) = smZ (fun i => (((tR T k (i.toNat + 1)).length : Nat) : Int)) i + (((tR T k (i + 1)).length : Nat) : Int) := by
          show smZ _ i + (((tR T k (((i : Nat) : Int).toNat + 1)).length : Nat) : Int) = _
          rw [show ((i : Nat) : Int).toNat = i by omega]
        rw [e1] at nx
        exact nx
    exact ⟨by omega, wp_Text_needSizes (loop (tN T k).toNat 0 (by omega))⟩
  rw [if_neg q4]
  by_cases q5 : w = 5
  · rw [if_pos q5]
    have hu : bse (bAnd b (bXor c (-1))) (fun v => vsG T k 1 (tN T k).toNat v ∧ ¬ vsG T k 0 0 v) := bse_iff (bse_no hb hc) (fun v v0 v1 => by
      constructor
      · rintro ⟨h1, h2⟩
        refine ⟨h1, ?_⟩
        rintro ⟨w1, w2, j, j1, j2, j3⟩
        have : j = 0 := by omega
        subst this
        exact h2 ⟨w1, w2, j3⟩
      · rintro ⟨h1, h2⟩
        exact ⟨h1, fun h3 => h2 ⟨h3.1, h3.2.1, 0, by omega, by omega, h3.2.2⟩⟩)
    exact t_bitCount hu.1 (bse_pos hu (fun h => by have := h.1.2.1; omega)).1 (hq _ (by rw [if_neg nin, if_neg q0, if_neg q1, if_neg q22, if_neg q3, if_neg q4, if_pos q5]; exact ⟨_, hu, rfl⟩))
  · rw [if_neg q5]
    exact hq _ (by rw [if_neg nin, if_neg q0, if_neg q1, if_neg q22, if_neg q3, if_neg q4, if_neg q5])
/-- the letters of some types of a given one: the reference -/
theorem t_varsOf {Q : Int → jS → Prop} {k : Int} {a b : Nat} (hm : mln σ) (hT : mTx σ T) (k0 : 0 ≤ k) (k1 : k < tG T) (hab : ((b : Nat) : Int) ≤ tN T k) (haB : a ≤ b + 1) (hq : ∀ s, bse s (vsG T k a b) → Q s σ) : TrI n i_Model_varsOf [jo 1 0, ji k, ji ((a : Nat) : Int), ji ((b : Nat) : Int)] σ Q := by
  obtain ⟨p1, p2, p3, p4, p5, p6⟩ := hT
  have l12 := mln_at hm 1012 120 (by decide)
  have l11 := mln_at hm 1011 1440 (by decide)
  have hG := p1.2.2.2.1
  obtain ⟨a1, a2, a3, a4, a5⟩ := p1.2.2.2.2.2 k k0 k1
  obtain ⟨b1, b2, b3⟩ := p5 k k0 k1
  have inner : ∀ (d i p : Nat) (s : Int), i ≤ b → a ≤ i → p + d = (tR T k i).length → bse s (fun v => 0 ≤ v ∧ v < 26 ∧ ((∃ j : Nat, a ≤ j ∧ j < i ∧ -1 - v ∈ tR T k j) ∨ -1 - v ∈ (tR T k i).take p)) → (∀ s2, bse s2 (fun v => 0 ≤ v ∧ v < 26 ∧ ∃ j : Nat, a ≤ j ∧ j < i + 1 ∧ -1 - v ∈ tR T k j) → J n c_Model_varsOf (some .int) 6 [some (jo 1 0), some (ji k), none, some (ji ((b : Nat) : Int)), some (ji s2), some (ji (((i : Nat) : Int) + 1)), none] [] σ (qI Q)) → J n c_Model_varsOf (some .int) 15 [some (jo 1 0), some (ji k), none, some (ji ((b : Nat) : Int)), some (ji s), some (ji ((i : Nat) : Int)), some (ji ((p : Nat) : Int))] [] σ (qI Q) := by
    intro d
    induction d with
    | zero =>
      intro i p s hib hai hp hs hnext
      obtain ⟨c1, c2⟩ := b3 i (by omega)
      refine wp_Model_varsOf_15 ⟨by omega, by omega, ⟨by omega, by omega⟩, ⟨by omega, by omega⟩, by omega, by omega, ?_⟩
      rw [c1, if_pos (by omega)]
      refine ⟨⟨by omega, by omega⟩, hnext s (bse_iff hs (fun v v0 v1 => ?_))⟩
      rw [List.take_of_length_le (by omega)]
      constructor
      · rintro ⟨w1, w2, ⟨j, j1, j2, j3⟩ | w3⟩
        · exact ⟨w1, w2, j, j1, by omega, j3⟩
        · exact ⟨w1, w2, i, hai, by omega, w3⟩
      · rintro ⟨w1, w2, j, j1, j2, j3⟩
        by_cases q : j = i
        · subst q; exact ⟨w1, w2, Or.inr j3⟩
        · exact ⟨w1, w2, Or.inl ⟨j, j1, by omega, j3⟩⟩
    | succ d ih =>
      intro i p s hib hai hp hs hnext
      obtain ⟨c1, c2⟩ := b3 i (by omega)
      have hrk := a5 i (by omega)
      have h12 := hrk.2.2
      have hpr : p < (tR T k i).length := by omega
      have et : (tR T k i).getD p 0 = (tR T k i)[p] := by rw [List.getD_eq_getElem?_getD, List.getElem?_eq_getElem hpr]; rfl
      have tg := hrk.2.1 _ (List.getElem_mem hpr)
      have etk : (tR T k i).take (p + 1) = (tR T k i).take p ++ [(tR T k i)[p]] := by rw [List.take_add_one, List.getElem?_eq_getElem hpr]; rfl
      unfold thg at tg
      refine wp_Model_varsOf_15 ⟨by omega, by omega, ⟨by omega, by omega⟩, ⟨by omega, by omega⟩, by omega, by omega, ?_⟩
      rw [c1, if_neg (by omega), c2 p hpr, et]
      refine ⟨by omega, ⟨by omega, by omega⟩, ⟨by omega, by omega⟩, by omega, by omega, ?_⟩
      by_cases q : 0 ≤ (tR T k i)[p]
      · rw [if_pos q]
        refine ⟨⟨by omega, by omega⟩, ih i (p + 1) s hib hai (by omega) (bse_iff hs (fun v v0 v1 => ?_)) hnext⟩
        rw [etk, List.mem_append, List.mem_singleton]
        constructor
        · rintro ⟨w1, w2, w3 | w3⟩
          · exact ⟨w1, w2, Or.inl w3⟩
          · exact ⟨w1, w2, Or.inr (Or.inl w3)⟩
        · rintro ⟨w1, w2, w3 | w3 | w3⟩
          · exact ⟨w1, w2, Or.inl w3⟩
          · exact ⟨w1, w2, Or.inr w3⟩
          · omega
      · rw [if_neg q]
        refine ⟨⟨by omega, by omega⟩, ⟨by omega, by omega⟩, ih i (p + 1) _ hib hai (by omega) (bse_iff (bse_or1 hs (by omega) (by omega)) (fun v v0 v1 => ?_)) hnext⟩
        rw [etk, List.mem_append, List.mem_singleton]
        constructor
        · rintro (⟨w1, w2, w3 | w3⟩ | w)
          · exact ⟨w1, w2, Or.inl w3⟩
          · exact ⟨w1, w2, Or.inr (Or.inl w3)⟩
          · exact ⟨by omega, by omega, Or.inr (Or.inr (by omega))⟩
        · rintro ⟨w1, w2, w3 | w3 | w3⟩
          · exact Or.inl ⟨w1, w2, Or.inl w3⟩
          · exact Or.inl ⟨w1, w2, Or.inr w3⟩
          · exact Or.inr (by omega)
  have outer : ∀ (d i : Nat) (s : Int), i + d = b + 1 → a ≤ i → bse s (fun v => 0 ≤ v ∧ v < 26 ∧ ∃ j : Nat, a ≤ j ∧ j < i ∧ -1 - v ∈ tR T k j) → J n c_Model_varsOf (some .int) 6 [some (jo 1 0), some (ji k), none, some (ji ((b : Nat) : Int)), some (ji s), some (ji ((i : Nat) : Int)), none] [] σ (qI Q) := by
    intro d
    induction d with
    | zero =>
      intro i s hi hai hs
      refine wp_Model_varsOf_6 ?_
      rw [if_pos (by omega)]
      refine hq s (bse_iff hs (fun v v0 v1 => ?_))
      constructor
      · rintro ⟨w1, w2, j, j1, j2, j3⟩
        exact ⟨w1, w2, j, j1, by omega, j3⟩
      · rintro ⟨w1, w2, j, j1, j2, j3⟩
        exact ⟨w1, w2, j, j1, by omega, j3⟩
    | succ d ih =>
      intro i s hi hai hs
      refine wp_Model_varsOf_6 ?_
      rw [if_neg (by omega)]
      refine inner (tR T k i).length i 0 s (by omega) hai (by omega) (bse_iff hs (fun v v0 v1 => ?_)) (fun s2 hs2 => ?_)
      · constructor
        · rintro ⟨w1, w2, w3⟩
          exact ⟨w1, w2, Or.inl w3⟩
        · rintro ⟨w1, w2, w3 | w3⟩
          · exact ⟨w1, w2, w3⟩
          · simp at w3
      · rw [show ((i : Nat) : Int) + 1 = ((i + 1 : Nat) : Int) by omega]
        exact ih (i + 1) s2 (by omega) (by omega) hs2
  exact wp_Model_varsOf (outer (b + 1 - a) a 0 (by omega) (by omega) (bse_0 (fun v w => by obtain ⟨-, -, j, j1, j2, -⟩ := w; omega)))
theorem t_given {Q : Int → jS → Prop} {k w : Int} (hn : 3 ≤ n) (hm : mln σ) (hT : mTx σ T) (hq : ∀ v, gvP T k w v → Q v σ) : TrI n i_Model_given [jo 1 0, ji k, ji w] σ Q := by
  have hT0 := hT
  obtain ⟨p1, p2, p3, p4, p5, p6⟩ := hT
  have l09 := mln_at hm 1009 24 (by decide)
  have l10 := mln_at hm 1010 24 (by decide)
  have l12 := mln_at hm 1012 120 (by decide)
  have hG := p1.2.2.2.1
  have hG0 := p1.2.2.1
  unfold gvP at hq
  refine wp_Model_given ⟨by omega, by omega, wp_Model_isGiven ⟨by omega, ?_⟩⟩
  rw [p3]
  refine ⟨⟨by omega, by omega⟩, by omega, wp_Model_isIn ?_⟩
  by_cases q : k < 0
  · rw [if_pos q]
    refine ⟨Or.inl rfl, ?_⟩
    rw [if_neg (by decide)]
    exact hq _ (by rw [if_pos (by omega)])
  rw [if_neg q]
  by_cases q2 : tG T ≤ k
  · rw [if_pos (by omega)]
    refine ⟨Or.inl rfl, ?_⟩
    rw [if_neg (by decide)]
    exact hq _ (by rw [if_pos (by omega)])
  rw [if_neg (by omega)]
  refine ⟨Or.inr rfl, ?_⟩
  have nin : ¬ ¬ (0 ≤ k ∧ k < tG T) := fun h => h ⟨by omega, by omega⟩
  obtain ⟨a1, a2, a3, a4, a5⟩ := p1.2.2.2.2.2 k (by omega) (by omega)
  obtain ⟨b1, b2, b3⟩ := p5 k (by omega) (by omega)
  have c0 := (b3 0 (by omega)).1
  rw [show 5 * k + ((0 : Nat) : Int) = 5 * k by omega] at c0
  rw [if_pos (by decide), l09, l10, l12, b1, b2, c0]
  by_cases q0 : w = 0
  · rw [if_pos q0]
    exact ⟨by omega, by omega, by omega, hq _ (by rw [if_neg nin, if_pos q0])⟩
  rw [if_neg q0]
  by_cases q1 : w = 1
  · rw [if_pos q1]
    exact ⟨by omega, by omega, by omega, hq _ (by rw [if_neg nin, if_neg q0, if_pos q1])⟩
  rw [if_neg q1]
  by_cases q22 : w = 2
  · rw [if_pos q22]
    have := t_varsOf (k := k) (n := n - 1) (a := 0) (b := (tN T k).toNat) (Q := fun z s => TrI (n - 1) i_Model_bits [ji z] s (fun z s => Q z s)) hm hT0 (by omega) (by omega) (by omega) (by omega) (fun s hs => by
      have hp := bse_pos hs (fun h => by have := h.2.1; omega)
      exact t_bits hp.1 hp.2 (hq _ (by rw [if_neg nin, if_neg q0, if_neg q1, if_pos q22]; exact ⟨_, hs, rfl⟩)))
    rw [show (((tN T k).toNat : Nat) : Int) = tN T k by omega] at this
    exact ⟨by omega, by omega, by omega, this⟩
  rw [if_neg q22]
  by_cases q3 : w = 3
  · rw [if_pos q3]
    exact ⟨by omega, ⟨by omega, by omega⟩, by omega, by omega, hq _ (by rw [if_neg nin, if_neg q0, if_neg q1, if_neg q22, if_pos q3])⟩
  rw [if_neg q3]
  by_cases q4 : w = 4
  · rw [if_pos q4]
    have loop : ∀ (d i : Nat), ((i : Nat) : Int) + ((d : Nat) : Int) = tN T k → J n c_Model_given (some .int) 94 [some (jo 1 0), some (ji k), none, some (ji (smZ (fun i => (((tR T k (i.toNat + 1)).length : Nat) : Int)) i)), some (ji (((i : Nat) : Int) + 1))] [] σ (qI Q) := by
      intro d
      induction d with
      | zero =>
        intro i hi
        refine wp_Model_given_94 ⟨by omega, by omega, by omega, by omega, ?_⟩
        rw [b2, if_pos (by omega)]
        refine hq _ ?_
        rw [if_neg nin, if_neg q0, if_neg q1, if_neg q22, if_neg q3, if_pos q4, show (tN T k).toNat = i by omega]
      | succ d ih =>
        intro i hi
        refine wp_Model_given_94 ⟨by omega, by omega, by omega, by omega, ?_⟩
        have hrk := (a5 (i + 1) (by omega)).2.2
        have ss := smZ_rng (f := fun i => (((tR T k (i.toNat + 1)).length : Nat) : Int)) (b := 12) (n := i) (fun j hj => by
          have := (a5 (j + 1) (by omega)).2.2
          rw [show ((j : Nat) : Int).toNat = j by omega]
          omega)
        rw [b2, if_neg (by omega), l12, show ((i : Nat) : Int) + 1 = ((i + 1 : Nat) : Int) by omega, (b3 (i + 1) (by omega)).1]
        refine ⟨by omega, ⟨by omega, by omega⟩, ⟨by omega, by omega⟩, by omega, by omega, ⟨by omega, by omega⟩, ⟨by omega, by omega⟩, ?_⟩
        have nx := ih (i + 1) (by omega)
        have e1 : smZ (fun i => (((tR T k (i.toNat + 1)).length : Nat) : Int)) (i + 1) = smZ (fun i => (((tR T k (i.toNat + 1)).length : Nat) : Int)) i + (((tR T k (i + 1)).length : Nat) : Int) := by
          show smZ _ i + (((tR T k (((i : Nat) : Int).toNat + 1)).length : Nat) : Int) = _
          rw [show ((i : Nat) : Int).toNat = i by omega]
        rw [e1] at nx
        exact nx
    exact loop (tN T k).toNat 0 (by omega)
  rw [if_neg q4]
  by_cases q5 : w = 5
  · rw [if_pos q5]
    refine wp_Model_needsVars ⟨by omega, by omega, by omega, by omega, by omega, ?_⟩
    rw [b2]
    have := t_varsOf (k := k) (n := n - 1 - 1) (a := 1) (b := (tN T k).toNat) (Q := fun z1 s1 => TrI (n - 1 - 1) i_Model_varsOf [jo 1 0, ji k, ji 0, ji 0] s1 (fun z2 s2 => TrI (n - 1 - 1) i_Model_bits [ji (bAnd z1 (bXor z2 (-1)))] s2 (fun z s => Q z s))) hm hT0 (by omega) (by omega) (by omega) (by omega) (fun s hs => by
      refine t_varsOf (k := k) (a := 0) (b := 0) hm hT0 (by omega) (by omega) (by omega) (by omega) (fun s2 hs2 => ?_)
      have hu := bse_no hs hs2
      have hp := bse_pos hu (fun h => by have := h.1.2.1; omega)
      exact t_bits hp.1 hp.2 (hq _ (by rw [if_neg nin, if_neg q0, if_neg q1, if_neg q22, if_neg q3, if_neg q4, if_pos q5]; exact ⟨_, hu, rfl⟩)))
    rw [show (((tN T k).toNat : Nat) : Int) = tN T k by omega] at this
    exact this
  · rw [if_neg q5]
    exact hq _ (by rw [if_neg nin, if_neg q0, if_neg q1, if_neg q22, if_neg q3, if_neg q4, if_neg q5])
end ZGv
