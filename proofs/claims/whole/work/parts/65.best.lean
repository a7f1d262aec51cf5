/-! The most special ones; how many are in a set. -/
def bstP (T : zT) (C : Int → Prop) (k : Int) : Prop := C k ∧ ∀ c, C c → ¬ spc T c k
section ZBe
variable {n : Nat} {σ : jS} {x u t : Int} {T : zT} {C : Int → Prop}
theorem has1_iff {b k : Int} (hb : bse b C) (k0 : 0 ≤ k) (k1 : k < 32) : has1 b k = 1 ∧ C k ∨ has1 b k = 0 ∧ ¬ C k := by
  unfold has1
  by_cases q : tb b k = true
  · rw [if_pos q]; exact Or.inl ⟨rfl, (hb.2 k k0 k1).mp q⟩
  · rw [if_neg q]; exact Or.inr ⟨rfl, fun w => q ((hb.2 k k0 k1).mpr w)⟩
theorem t_bestOf {Q : Int → jS → Prop} {b : Int} (hn : 1 ≤ n) (hm : mln σ) (hx : mTx σ T) (hb : bse b C) (hq : ∀ b', bse b' (fun k => 0 ≤ k ∧ k < tG T ∧ C k ∧ ∀ c, 0 ≤ c → c < tG T → C c → ¬ spc T c k) → Q b' σ) : TrI n i_Model_bestOf [jo 1 0, ji b] σ Q := by
  obtain ⟨hT, x1, x2, x3, x4, x5⟩ := hx
  have hG := hT.2.2.2.1
  have hG0 := hT.2.2.1
  have l26 := mln_at hm 1026 576 (by decide)
  have outer : ∀ (j k : Nat) (r : Int), ((k + j : Nat) : Int) = tG T → bse r (fun k' => 0 ≤ k' ∧ k' < (k : Nat) ∧ C k' ∧ ∀ c, 0 ≤ c → c < tG T → C c → ¬ spc T c k') → J n c_Model_bestOf (some .int) 4 [some (jo 1 0), some (ji b), some (ji r), some (ji (k : Nat)), none, none] [] σ (qI Q) := by
    intro j
    induction j with
    | zero =>
      intro k r hk hr
      refine wp_Model_bestOf_4 ⟨by omega, ?_⟩
      rw [if_pos (by omega)]
      refine hq r ⟨hr.1, fun k' d0 d1 => ?_⟩
      rw [hr.2 k' d0 d1]
      constructor
      · rintro ⟨a, b', c⟩; exact ⟨a, by omega, c⟩
      · rintro ⟨a, b', c⟩; exact ⟨a, by omega, c⟩
    | succ j ih =>
      intro k r hk hr
      refine wp_Model_bestOf_4 ⟨by omega, ?_⟩
      rw [if_neg (by omega)]
      refine ⟨hn, t_has (by omega) (by omega) ?_⟩
      -- what comes of it
      have fin : ∀ z, (z = 1 ∧ (C k ∧ ∀ c, 0 ≤ c → c < tG T → C c → ¬ spc T c k)) ∨ (z = 0 ∧ ¬ (C k ∧ ∀ c, 0 ≤ c → c < tG T → C c → ¬ spc T c k)) → J n c_Model_bestOf (some .int) 73 [some (jo 1 0), some (ji b), some (ji r), some (ji (k : Nat)), some (ji z), none] [] σ (qI Q) := by
        intro z hz
        refine wp_Model_bestOf_73 ?_
        rcases hz with ⟨e, w⟩ | ⟨e, w⟩
        · rw [if_neg (by omega)]
          refine ⟨⟨by omega, by omega⟩, ih (k + 1) _ (by omega) ⟨i32_bOr _ _, fun c d0 d1 => ?_⟩⟩
          rw [tb_or, tb_one (by omega) (by omega) d0, Bool.or_eq_true, hr.2 c d0 d1, decide_eq_true_eq]
          constructor
          · rintro (⟨y1, y2, y3⟩ | y)
            · exact ⟨y1, by omega, y3⟩
            · rw [y]; exact ⟨by omega, by omega, w⟩
          · rintro ⟨y1, y2, y3⟩
            by_cases y : c = k
            · exact Or.inr y
            · exact Or.inl ⟨y1, by omega, y3⟩
        · rw [if_pos e]
          refine ⟨⟨by omega, by omega⟩, ih (k + 1) _ (by omega) ⟨i32_bOr _ _, fun c d0 d1 => ?_⟩⟩
          rw [tb_or, tb_0, Bool.or_false, hr.2 c d0 d1]
          constructor
          · rintro ⟨y1, y2, y3⟩; exact ⟨y1, by omega, y3⟩
          · rintro ⟨y1, y2, y3⟩
            by_cases y : c = k
            · rw [y] at y3; exact absurd y3 w
            · exact ⟨y1, by omega, y3⟩
      -- the inner loop
      have inner : ∀ (j2 o : Nat) (z : Int), ((o + j2 : Nat) : Int) = tG T → (z = 1 ∧ (C k ∧ ∀ c : Int, 0 ≤ c → c < (o : Nat) → C c → ¬ spc T c k)) ∨ (z = 0 ∧ ¬ (C k ∧ ∀ c, 0 ≤ c → c < tG T → C c → ¬ spc T c k)) → J n c_Model_bestOf (some .int) 22 [some (jo 1 0), some (ji b), some (ji r), some (ji (k : Nat)), some (ji z), some (ji (o : Nat))] [] σ (qI Q) := by
        intro j2
        induction j2 with
        | zero =>
          intro o z ho hz
          refine wp_Model_bestOf_22 ⟨by omega, ?_⟩
          rw [if_pos (by omega)]
          rw [Nat.add_zero] at ho
          rw [← ho] at fin
          refine fin z ?_
          rw [← ho] at hz
          exact hz
        | succ j2 ih2 =>
          intro o z ho hz
          refine wp_Model_bestOf_22 ⟨by omega, ?_⟩
          rw [if_neg (by omega)]
          rcases hz with ⟨e, w⟩ | ⟨e, w⟩
          · rw [if_neg (by omega)]
            refine ⟨hn, t_has (by omega) (by omega) ?_⟩
            rcases has1_iff (k := o) hb (by omega) (by omega) with ⟨e2, w2⟩ | ⟨e2, w2⟩
            · rw [e2, if_neg (by decide)]
              have h5 := x5 o k (by omega) (by omega) (by omega) (by omega)
              refine ⟨by omega, ⟨by omega, by omega⟩, ⟨by omega, by omega⟩, by omega, by omega, ?_⟩
              rcases h5 with ⟨e3, w3⟩ | ⟨e3, w3⟩
              · rw [if_pos (by omega)]
                exact ⟨⟨by omega, by omega⟩, ih2 (o + 1) 0 (by omega) (Or.inr ⟨rfl, fun y => y.2 o (by omega) (by omega) w2 w3⟩)⟩
              · rw [if_neg (by omega)]
                refine ⟨⟨by omega, by omega⟩, ih2 (o + 1) 1 (by omega) (Or.inl ⟨rfl, w.1, fun c c0 c1 c2 => ?_⟩)⟩
                by_cases y : c = o
                · rw [y]; exact w3
                · exact w.2 c c0 (by omega) c2
            · rw [e2, if_pos rfl]
              refine ⟨⟨by omega, by omega⟩, ih2 (o + 1) 1 (by omega) (Or.inl ⟨rfl, w.1, fun c c0 c1 c2 => ?_⟩)⟩
              by_cases y : c = o
              · rw [y] at c2; exact absurd c2 w2
              · exact w.2 c c0 (by omega) c2
          · rw [if_pos e]
            exact fin z (Or.inr ⟨e, w⟩)
      obtain ⟨m, hm2⟩ := Int.eq_ofNat_of_zero_le hG0
      refine inner m 0 _ (by rw [Nat.zero_add]; exact hm2.symm) ?_
      rcases has1_iff (k := k) hb (by omega) (by omega) with ⟨e2, w2⟩ | ⟨e2, w2⟩
      · exact Or.inl ⟨e2, w2, fun c c0 c1 => absurd c1 (by omega)⟩
      · exact Or.inr ⟨e2, fun y => w2 y.1⟩
  obtain ⟨m, hm2⟩ := Int.eq_ofNat_of_zero_le hG0
  exact wp_Model_bestOf (outer m 0 0 (by rw [Nat.zero_add]; exact hm2.symm) ⟨⟨by decide, by decide⟩, fun c c0 c1 => by
    rw [tb_0]
    exact ⟨fun q => (by cases q), fun q => absurd q.2.1 (by omega)⟩⟩)
theorem c_hasGiven {Q : Int → jS → Prop} {tx k : Int} (h0 : 0 ≤ tx) (hS : rs σ 10001 tx = tG T) (hT : tok T) (hq : Q (if 0 ≤ k ∧ k < tG T then 1 else 0) σ) : TrI n i_Text_hasGiven [jo 10 tx, ji k] σ Q := by
  have := hT.2.2.2.1
  refine wp_Text_hasGiven ?_
  by_cases q : k < 0
  · rw [if_pos q]
    rw [if_neg (by omega)] at hq
    exact hq
  · rw [if_neg q]
    refine ⟨h0, ?_⟩
    by_cases q2 : rs σ 10001 tx ≤ k
    · rw [if_pos q2]
      rw [if_neg (by omega)] at hq
      exact hq
    · rw [if_neg q2, if_neg (by omega)]
      rw [if_pos (by omega)] at hq
      exact hq
/-- c's RESULT is one that k's becomes -/
theorem c_isCase {Q : Int → jS → Prop} {tx c k : Int} (hn : 1 ≤ n) (htx : tx = 0 ∨ tx = 1) (h : cln σ) (hS : rs σ 10001 tx = tG T) (hT : tok T) (hcs : ∀ g, 0 ≤ g → g < tG T → bse (ra σ 10009 tx g) (fun c => 0 ≤ c ∧ c < tG T ∧ becm (tR T g 0) (tR T c 0))) (k0 : 0 ≤ k) (k1 : k < tG T) (c0 : 0 ≤ c) (c1 : c < tG T) (hq : ∀ z, (z = 1 ∧ becm (tR T k 0) (tR T c 0)) ∨ (z = 0 ∧ ¬ becm (tR T k 0) (tR T c 0)) → Q z σ) : TrI n i_Text_isCase [jo 10 tx, ji c, ji k] σ Q := by
  have hG := hT.2.2.2.1
  have l9 : rl σ 10009 tx = 24 := by
    rcases htx with w | w
    · rw [w]; exact cln_at h 10009 0 24 (by decide)
    · rw [w]; exact cln_at h 10009 1 24 (by decide)
  refine wp_Text_isCase ⟨by omega, hn, c_hasGiven (by omega) hS hT ?_⟩
  rw [show (if 0 ≤ k ∧ k < tG T then (1 : Int) else 0) = 1 from if_pos ⟨k0, k1⟩, if_neg (by decide)]
  refine ⟨by omega, k0, by omega, c_isIn c0 (by omega) ?_⟩
  rcases has1_iff (k := c) (hcs k k0 k1) c0 (by omega) with ⟨e, w⟩ | ⟨e, w⟩
  · rw [e, if_neg (by decide)]
    exact hq 1 (Or.inl ⟨rfl, w.2.2⟩)
  · rw [e, if_pos rfl]
    exact hq 0 (Or.inr ⟨rfl, fun y => w ⟨c0, c1, y⟩⟩)
theorem c_bestOf {Q : Int → jS → Prop} {b tx : Int} (hn : 3 ≤ n) (htx : tx = 0 ∨ tx = 1) (h : cln σ) (hS : rs σ 10001 tx = tG T) (hT : tok T) (hcs : ∀ g, 0 ≤ g → g < tG T → bse (ra σ 10009 tx g) (fun c => 0 ≤ c ∧ c < tG T ∧ becm (tR T g 0) (tR T c 0))) (hb : bse b C) (hq : ∀ b', bse b' (fun k => 0 ≤ k ∧ k < tG T ∧ C k ∧ ∀ c, 0 ≤ c → c < tG T → C c → ¬ spc T c k) → Q b' σ) : TrI n i_Text_bestOf [jo 10 tx, ji b] σ Q := by
  have hG := hT.2.2.2.1
  have hG0 := hT.2.2.1
  have more : ∀ {n : Nat} {Q : Int → jS → Prop} {k : Int}, 2 ≤ n → 0 ≤ k → k < tG T → (∀ z, (z = 1 ∧ ¬ ∀ c, 0 ≤ c → c < tG T → C c → ¬ spc T c k) ∨ (z = 0 ∧ ∀ c, 0 ≤ c → c < tG T → C c → ¬ spc T c k) → Q z σ) → TrI n i_Text_hasMoreSpecial [jo 10 tx, ji k, ji b] σ Q := by
    intro n Q k hn k0 k1 hq
    have loop : ∀ (j o : Nat), ((o + j : Nat) : Int) = tG T → (∀ c : Int, 0 ≤ c → c < (o : Nat) → C c → ¬ spc T c k) → J n c_Text_hasMoreSpecial (some .boolean) 2 [some (jo 10 tx), some (ji k), some (ji b), some (ji (o : Nat))] [] σ (qI Q) := by
      intro j
      induction j with
      | zero =>
        intro o ho hw
        refine wp_Text_hasMoreSpecial_2 ⟨by omega, ?_⟩
        rw [if_pos (by omega)]
        exact hq 0 (Or.inr ⟨rfl, fun c c0 c1 => hw c c0 (by omega)⟩)
      | succ j ih =>
        intro o ho hw
        refine wp_Text_hasMoreSpecial_2 ⟨by omega, ?_⟩
        rw [if_neg (by omega)]
        refine ⟨by omega, c_isIn (by omega) (by omega) ?_⟩
        rcases has1_iff (k := o) hb (by omega) (by omega) with ⟨e, w⟩ | ⟨e, w⟩
        · rw [e, if_neg (by decide)]
          refine c_isCase (by omega) htx h hS hT hcs k0 k1 (by omega) (by omega) (fun z hz => ?_)
          rcases hz with ⟨e2, w2⟩ | ⟨e2, w2⟩
          · rw [if_neg (by omega)]
            refine c_isCase (by omega) htx h hS hT hcs (by omega) (by omega) k0 k1 (fun z2 hz2 => ?_)
            rcases hz2 with ⟨e3, w3⟩ | ⟨e3, w3⟩
            · rw [if_pos (by omega)]
              refine ⟨⟨by omega, by omega⟩, ih (o + 1) (by omega) (fun c c0 c1 c2 => ?_)⟩
              by_cases y : c = o
              · rw [y]; exact fun y2 => y2.2 w3
              · exact hw c c0 (by omega) c2
            · rw [if_neg (by omega)]
              exact hq 1 (Or.inl ⟨rfl, fun y => y o (by omega) (by omega) w ⟨w2, w3⟩⟩)
          · rw [if_pos e2]
            refine ⟨⟨by omega, by omega⟩, ih (o + 1) (by omega) (fun c c0 c1 c2 => ?_)⟩
            by_cases y : c = o
            · rw [y]; exact fun y2 => w2 y2.1
            · exact hw c c0 (by omega) c2
        · rw [e, if_pos rfl]
          refine ⟨⟨by omega, by omega⟩, ih (o + 1) (by omega) (fun c c0 c1 c2 => ?_)⟩
          by_cases y : c = o
          · rw [y] at c2; exact absurd c2 w
          · exact hw c c0 (by omega) c2
    obtain ⟨m, hm2⟩ := Int.eq_ofNat_of_zero_le hG0
    exact wp_Text_hasMoreSpecial (loop m 0 (by rw [Nat.zero_add]; exact hm2.symm) (fun c c0 c1 => absurd c1 (by omega)))
  have outer : ∀ (j k : Nat) (r : Int), ((k + j : Nat) : Int) = tG T → bse r (fun k' => 0 ≤ k' ∧ k' < (k : Nat) ∧ C k' ∧ ∀ c, 0 ≤ c → c < tG T → C c → ¬ spc T c k') → J n c_Text_bestOf (some .int) 4 [some (jo 10 tx), some (ji b), some (ji r), some (ji (k : Nat))] [] σ (qI Q) := by
    intro j
    induction j with
    | zero =>
      intro k r hk hr
      refine wp_Text_bestOf_4 ⟨by omega, ?_⟩
      rw [if_pos (by omega)]
      refine hq r ⟨hr.1, fun k' d0 d1 => ?_⟩
      rw [hr.2 k' d0 d1]
      constructor
      · rintro ⟨a, b', c⟩; exact ⟨a, by omega, c⟩
      · rintro ⟨a, b', c⟩; exact ⟨a, by omega, c⟩
    | succ j ih =>
      intro k r hk hr
      have no : ¬ (C k ∧ ∀ c, 0 ≤ c → c < tG T → C c → ¬ spc T c k) → J n c_Text_bestOf (some .int) 4 [some (jo 10 tx), some (ji b), some (ji r), some (ji (((k : Nat) : Int) + 1))] [] σ (qI Q) := fun w => by
        refine ih (k + 1) r (by omega) ⟨hr.1, fun c d0 d1 => ?_⟩
        rw [hr.2 c d0 d1]
        constructor
        · rintro ⟨y1, y2, y3⟩; exact ⟨y1, by omega, y3⟩
        · rintro ⟨y1, y2, y3⟩
          by_cases y : c = k
          · rw [y] at y3; exact absurd y3 w
          · exact ⟨y1, by omega, y3⟩
      refine wp_Text_bestOf_4 ⟨by omega, ?_⟩
      rw [if_neg (by omega)]
      refine ⟨by omega, c_isIn (by omega) (by omega) ?_⟩
      rcases has1_iff (k := k) hb (by omega) (by omega) with ⟨e, w⟩ | ⟨e, w⟩
      · rw [e, if_neg (by decide)]
        refine more (by omega) (by omega) (by omega) (fun z hz => ?_)
        rcases hz with ⟨e2, w2⟩ | ⟨e2, w2⟩
        · rw [if_pos (by omega)]
          exact ⟨⟨by omega, by omega⟩, no (fun y => w2 y.2)⟩
        · rw [if_neg (by omega)]
          refine ⟨⟨by omega, by omega⟩, ih (k + 1) _ (by omega) ⟨i32_bOr _ _, fun c d0 d1 => ?_⟩⟩
          rw [tb_or, tb_one (by omega) (by omega) d0, Bool.or_eq_true, hr.2 c d0 d1, decide_eq_true_eq]
          constructor
          · rintro (⟨y1, y2, y3⟩ | y)
            · exact ⟨y1, by omega, y3⟩
            · rw [y]; exact ⟨by omega, by omega, w, w2⟩
          · rintro ⟨y1, y2, y3⟩
            by_cases y : c = k
            · exact Or.inr y
            · exact Or.inl ⟨y1, by omega, y3⟩
      · rw [e, if_pos rfl]
        exact ⟨⟨by omega, by omega⟩, no (fun y => w y.1)⟩
  obtain ⟨m, hm2⟩ := Int.eq_ofNat_of_zero_le hG0
  exact wp_Text_bestOf (outer m 0 0 (by rw [Nat.zero_add]; exact hm2.symm) ⟨⟨by decide, by decide⟩, fun c c0 c1 => by
    rw [tb_0]
    exact ⟨fun q => (by cases q), fun q => absurd q.2.1 (by omega)⟩⟩)
end ZBe
