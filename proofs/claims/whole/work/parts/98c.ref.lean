/-! The reference: bits counted, rows copied, what is remembered looked for. -/
theorem low_bit : ∀ a : Nat, 0 < a → ∃ b, a.testBit b = true ∧ ∀ j, (a &&& (a - 1)).testBit j = (a.testBit j && decide (¬ j = b)) := by
  intro a
  induction a using Nat.strongRecOn with
  | ind a ih =>
    intro h0
    by_cases q : a % 2 = 1
    · refine ⟨0, by rw [Nat.testBit_zero]; exact decide_eq_true q, fun j => ?_⟩
      rw [Nat.testBit_and]
      cases j with
      | zero => rw [Nat.testBit_zero, Nat.testBit_zero, decide_eq_true q, decide_eq_false (by omega : ¬ (a - 1) % 2 = 1)]; rfl
      | succ j =>
        rw [Nat.testBit_add_one, Nat.testBit_add_one, show (a - 1) / 2 = a / 2 by omega, Bool.and_self, decide_eq_true (by omega : ¬ j + 1 = 0), Bool.and_true]
    · obtain ⟨b, b1, b2⟩ := ih (a / 2) (by omega) (by omega)
      refine ⟨b + 1, by rw [Nat.testBit_add_one]; exact b1, fun j => ?_⟩
      rw [Nat.testBit_and]
      cases j with
      | zero => rw [Nat.testBit_zero, decide_eq_false q]; rfl
      | succ j =>
        have := b2 j
        rw [Nat.testBit_and] at this
        rw [Nat.testBit_add_one, Nat.testBit_add_one, show (a - 1) / 2 = a / 2 - 1 by omega, this]
        congr 1
        by_cases w : j = b
        · rw [decide_eq_false (by omega), decide_eq_false (by omega)]
        · rw [decide_eq_true w, decide_eq_true (by omega)]
theorem cno_con : ∀ {l s : List Int} {t : Int}, 0 ≤ t → (t ∈ cno s l ↔ t ∈ l) := by
  intro l
  induction l with
  | nil => intro s t _; exact Iff.rfl
  | cons a l ih =>
    intro s t h0
    rw [cno_cons]
    by_cases q : a < 0
    · rw [if_pos q, List.mem_cons, List.mem_cons, ih h0]
      constructor
      · rintro (w | w)
        · omega
        · exact Or.inr w
      · rintro (w | w)
        · omega
        · exact Or.inr w
    · rw [if_neg q, List.mem_cons, List.mem_cons, ih h0]
theorem covE_cno {l l' : List Int} : covE (cno [] l) (cno [] l') ↔ covE l l' := by
  have key : ∀ (l : List Int) (k : Int), (∃ t, t ∈ cno [] l ∧ 0 ≤ t ∧ t / 4 = k) ↔ ∃ t, t ∈ l ∧ 0 ≤ t ∧ t / 4 = k := fun l k => by
    constructor
    · rintro ⟨t, t1, t2, t3⟩
      exact ⟨t, (cno_con t2).mp t1, t2, t3⟩
    · rintro ⟨t, t1, t2, t3⟩
      exact ⟨t, (cno_con t2).mpr t1, t2, t3⟩
  constructor
  · intro h k k0 k1
    rw [← key l k, ← key l' k]
    exact h k k0 k1
  · intro h k k0 k1
    rw [key l k, key l' k]
    exact h k k0 k1
section ZOa
variable {n : Nat} {σ σ1 : jS} {g g' : zH} {N N' : Int} {β E : List (Int × Int)} {x : Int} {P : zP} {s : zS} {path : List (Int × Int)} {M : zM}
theorem t_bits {Q : Int → jS → Prop} {b : Int} (h0 : 0 ≤ b) (h1 : b < 2147483648) (hq : Q (tbn 32 b) σ) : TrI n i_Model_bits [ji b] σ Q := by
  have loop : ∀ (a c : Nat), (a : Int) < 2147483648 → (c : Int) + tbn 32 ((a : Nat) : Int) = tbn 32 b → J n c_Model_bits (some .int) 4 [none, some (ji ((c : Nat) : Int)), some (ji ((a : Nat) : Int))] [] σ (qI Q) := by
    intro a
    induction a using Nat.strongRecOn with
    | ind a ih =>
      intro c ha hc
      have hb := tbn_ge 32 b
      refine wp_Model_bits_4 ?_
      by_cases q : a = 0
      · subst q
        rw [if_pos (show ((0 : Nat) : Int) = 0 from rfl)]
        have : tbn 32 ((0 : Nat) : Int) = 0 := tbn_0 32
        rw [this] at hc
        rw [show ((c : Nat) : Int) = tbn 32 b by omega]
        exact hq
      · rw [if_neg (by omega)]
        have hg := tbn_ge 32 ((a : Nat) : Int)
        refine ⟨⟨by omega, by omega⟩, ⟨by omega, by omega⟩, ?_⟩
        rw [show ((a : Nat) : Int) - 1 = ((a - 1 : Nat) : Int) by omega, nAnd (by omega) (by omega), show ((c : Nat) : Int) + 1 = ((c + 1 : Nat) : Int) by omega]
        have hle : a &&& (a - 1) ≤ a - 1 := Nat.and_le_right
        obtain ⟨k, k1, k2⟩ := low_bit a (by omega)
        have hk : k < 32 := by
          rcases Nat.lt_or_ge k 32 with w | w
          · exact w
          · have := Nat.testBit_lt_two_pow (x := a) (i := k) (Nat.lt_of_lt_of_le (show a < 2 ^ 31 by omega) (Nat.pow_le_pow_right (by decide) (by omega)))
            rw [this] at k1
            cases k1
        have hdel := tbn_del (x := ((a : Nat) : Int)) (y := ((a &&& (a - 1) : Nat) : Int)) (b := k) (k := 32) hk (by rw [tb_nat (by omega) (by omega)]; exact k1) (by rw [tb_nat (by omega) (by omega)]; show (a &&& (a - 1)).testBit k = false; rw [k2, decide_eq_false (fun w => w rfl), Bool.and_false]) (fun j j0 j1 jne => by
          rw [tb_nat j0 (by omega), tb_nat j0 (by omega), k2, decide_eq_true (by omega), Bool.and_true])
        exact ih (a &&& (a - 1)) (by omega) (c + 1) (by omega) (by omega)
  obtain ⟨a, ha⟩ := Int.eq_ofNat_of_zero_le h0
  refine wp_Model_bits ?_
  rw [ha]
  rw [ha] at hq
  have := loop a 0 (by omega) (by rw [ha]; omega)
  exact this
/-- some places of a row, into another -/
theorem t_copy {Q : jS → Prop} {F G : Nat} {p q : Int} {m : Nat} (hF : jt F = 0) (hG : jt G = 0) (hGs : ¬ G = jscr) (hne : ¬ F = G) (p0 : 0 ≤ p) (p1 : p + (m : Nat) ≤ rl σ F 0) (q0 : 0 ≤ q) (q1 : q + (m : Nat) ≤ rl σ G 0) (hl1 : rl σ F 0 ≤ 1000000) (hl2 : rl σ G 0 ≤ 1000000) (hq : ∀ σ1, sq [(G, 0)] σ σ1 → (∀ i : Int, ra σ1 G 0 i = if q ≤ i ∧ i < q + (m : Nat) then ra σ F 0 (p + (i - q)) else ra σ G 0 i) → Q σ1) : TrV n i_Model_copy [ja F 0, ji p, ji ((m : Nat) : Int), ja G 0, ji q] σ Q := by
  have loop : ∀ (d i : Nat) (σ1 : jS), i + d = m → sq [(G, 0)] σ σ1 → (∀ j : Int, ra σ1 G 0 j = if q ≤ j ∧ j < q + (i : Nat) then ra σ F 0 (p + (j - q)) else ra σ G 0 j) → J n c_Model_copy none 3 [some (ja F 0), some (ji p), some (ji ((m : Nat) : Int)), some (ja G 0), some (ji q), some (ji ((i : Nat) : Int))] [] σ1 (qV Q) := by
    intro d
    induction d with
    | zero =>
      intro i σ1 hi f1 r1
      refine wp_Model_copy_3 ?_
      rw [if_pos (by omega)]
      have ei : i = m := by omega
      rw [ei] at r1
      exact hq σ1 f1 r1
    | succ d ih =>
      intro i σ1 hi f1 r1
      refine wp_Model_copy_3 ?_
      rw [if_neg (by omega), f1.nrl F 0, f1.nrl G 0]
      refine ⟨⟨by omega, by omega⟩, ⟨by omega, by omega⟩, hF, by omega, by omega, hG, hGs, by omega, by omega, fun s6 e6 => ⟨⟨by omega, by omega⟩, ?_⟩⟩
      rw [show ((i : Nat) : Int) + 1 = ((i + 1 : Nat) : Int) by omega]
      have f6 : sq [(G, 0)] σ s6 := by rw [e6]; exact f1.pwa G 0 _ _ (List.contains_iff_mem.mpr List.mem_cons_self)
      refine ih (i + 1) s6 (by omega) f6 (fun j => ?_)
      have r6 : ra s6 G 0 = upI (ra σ1 G 0) (q + ((i : Nat) : Int)) (ra σ1 F 0 (p + ((i : Nat) : Int))) := by
        rw [e6]
        unfold wa
        rw [raf_wA, if_pos ⟨rfl, rfl⟩]
      rw [r6]
      unfold upI
      by_cases w : j = q + ((i : Nat) : Int)
      · rw [if_pos w, if_pos (by omega), f1.nra F 0 _ (by simp [hne])]
        congr 1
        omega
      · rw [if_neg w, r1 j]
        by_cases w2 : q ≤ j ∧ j < q + ((i : Nat) : Int)
        · rw [if_pos w2, if_pos (by omega)]
        · rw [if_neg w2, if_neg (by omega)]
  exact wp_Model_copy (loop m 0 σ (by omega) (sq.rf _ σ) (fun j => by rw [if_neg (by omega)]))
/-- the remembered goal that is laid out, in a scope -/
theorem t_memoryOf {Q : Int → jS → Prop} {sc : Int} {r D : List Int} (hm : mln σ) (hM : mMem σ M) (hl : laid σ D) (hD : D.length ≤ 100) (hr : r = cno [] D) (hq : Q (match fndM M sc r with
    | some j => ((j : Nat) : Int)
    | none => -1) σ) : TrI n i_Model_memoryOf [jo 1 0, ji sc] σ Q := by
  obtain ⟨d1, d2, -⟩ := hl
  obtain ⟨h1, h2, h3, -⟩ := hM
  have hrl : r.length = D.length := by rw [hr, cno_len]
  rw [← hr] at d2
  have l66 := mln_at hm 1066 40 (by decide)
  have l67 := mln_at hm 1067 40 (by decide)
  have l68 := mln_at hm 1068 4000 (by decide)
  have l41 := mln_at hm 1041 101 (by decide)
  have loop : ∀ (d j : Nat), j + d = M.length → (∀ i, (hi : i < M.length) → i < j → ¬ ((M[i]).1 = sc ∧ (M[i]).2.1 = r)) → J n c_Model_memoryOf (some .int) 2 [some (jo 1 0), some (ji sc), some (ji ((j : Nat) : Int)), none, none] [] σ (qI Q) := by
    intro d
    induction d with
    | zero =>
      intro j hj hno
      refine wp_Model_memoryOf_2 ⟨by omega, ?_⟩
      rw [h1, if_pos (by omega)]
      have e : fndM M sc r = none := by
        unfold fndM
        rw [List.findIdx?_eq_none_iff]
        intro e he
        obtain ⟨i, hi, e2⟩ := List.getElem_of_mem he
        have := hno i hi (by omega)
        rw [e2] at this
        exact decide_eq_false this
      rw [e] at hq
      exact hq
    | succ d ih =>
      intro j hj hno
      have hjl : j < M.length := by omega
      obtain ⟨c1, c2, c3, c4, -⟩ := h3 j hjl
      have nx : ¬ ((M[j]).1 = sc ∧ (M[j]).2.1 = r) → i32 (((j : Nat) : Int) + 1) ∧ J n c_Model_memoryOf (some .int) 2 [some (jo 1 0), some (ji sc), some (ji (((j : Nat) : Int) + 1)), none, none] [] σ (qI Q) := fun w => by
        refine ⟨⟨by omega, by omega⟩, ?_⟩
        rw [show ((j : Nat) : Int) + 1 = ((j + 1 : Nat) : Int) by omega]
        refine ih (j + 1) (by omega) (fun i hi hij => ?_)
        rcases Nat.lt_or_ge i j with q | q
        · exact hno i hi q
        · have : i = j := by omega
          subst this
          exact w
      refine wp_Model_memoryOf_2 ⟨by omega, ?_⟩
      rw [h1, if_neg (by omega), l66, l67, c1, c2, d1]
      refine ⟨by omega, by omega, by omega, ?_⟩
      by_cases q : (M[j]).1 = sc
      · rw [if_neg (fun w => w q)]
        refine ⟨by omega, by omega, ?_⟩
        by_cases q2 : (M[j]).2.1.length = r.length
        · rw [if_pos (by omega)]
          -- sign by sign
          have row : ∀ (dd k : Nat) (is : Int), k + dd = r.length → (is = 1 ∧ (M[j]).2.1.take k = r.take k ∨ is = 0 ∧ ¬ (M[j]).2.1 = r) → J n c_Model_memoryOf (some .int) 41 [some (jo 1 0), some (ji sc), some (ji ((j : Nat) : Int)), some (ji is), some (ji ((k : Nat) : Int))] [] σ (qI Q) := by
            intro dd
            induction dd with
            | zero =>
              intro k is hk his
              refine wp_Model_memoryOf_41 ⟨by omega, ?_⟩
              rw [d1, if_pos (by omega)]
              rcases his with ⟨w1, w2⟩ | ⟨w1, w2⟩
              · rw [if_neg (by omega)]
                rw [List.take_of_length_le (by omega), List.take_of_length_le (by omega)] at w2
                have e : fndM M sc r = some j := by
                  unfold fndM
                  rw [List.findIdx?_eq_some_iff_getElem]
                  exact ⟨hjl, decide_eq_true ⟨q, w2⟩, fun i hij w => hno i (by omega) hij (of_decide_eq_true w)⟩
                rw [e] at hq
                exact hq
              · rw [if_pos w1]
                exact nx (fun w => w2 w.2)
            | succ dd ih2 =>
              intro k is hk his
              refine wp_Model_memoryOf_41 ⟨by omega, ?_⟩
              rw [d1, if_neg (by omega)]
              rcases his with ⟨w1, w2⟩ | ⟨w1, w2⟩
              · rw [if_neg (by omega), l68, l41, c4 k (by omega), d2 k (by omega)]
                refine ⟨by omega, ⟨by omega, by omega⟩, ⟨by omega, by omega⟩, by omega, by omega, by omega, by omega, by omega, ?_⟩
                by_cases q3 : (M[j]).2.1.getD k 0 = r.getD k 0
                · rw [if_neg (fun w => w q3)]
                  refine ⟨⟨by omega, by omega⟩, ?_⟩
                  rw [show ((k : Nat) : Int) + 1 = ((k + 1 : Nat) : Int) by omega]
                  refine ih2 (k + 1) 1 (by omega) (Or.inl ⟨rfl, ?_⟩)
                  rw [take_s (by omega), take_s (by omega), w2, q3]
                · rw [if_pos q3]
                  refine ⟨⟨by omega, by omega⟩, ?_⟩
                  rw [show ((k : Nat) : Int) + 1 = ((k + 1 : Nat) : Int) by omega]
                  exact ih2 (k + 1) 0 (by omega) (Or.inr ⟨rfl, fun w => q3 (by rw [w])⟩)
              · rw [if_pos w1, if_pos w1]
                exact nx (fun w => w2 w.2)
          exact row r.length 0 1 (by omega) (Or.inl ⟨rfl, by simp⟩)
        · rw [if_neg (by omega)]
          exact nx (fun w => q2 (by rw [w.2]))
      · rw [if_pos q]
        exact nx (fun w => q w.1)
  exact wp_Model_memoryOf (loop M.length 0 (by omega) (fun i hi h => absurd h (Nat.not_lt_zero i)))
end ZOa
