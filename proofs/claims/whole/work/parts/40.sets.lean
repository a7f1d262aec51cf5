/-! Sets of bits. -/
def tb (x k : Int) : Bool := (BitVec.ofInt 32 x).getLsbD k.toNat
theorem sm32a : ∀ m, m < 32 → (((Int32.ofInt ((m : Nat) : Int)) &&& 31).toBitVec.smod 32).toNat = m := by decide +kernel
theorem sm32 {k : Int} (h0 : 0 ≤ k) (h : k < 32) : ((Int32.ofInt k &&& 31).toBitVec.smod 32).toNat = k.toNat := by
  obtain ⟨m, rfl⟩ := Int.eq_ofNat_of_zero_le h0
  exact (sm32a m (by omega)).trans (by simp)
theorem bv_of (v : Int32) : BitVec.ofInt 32 v.toInt = v.toBitVec := by
  rw [← Int32.toInt_toBitVec, BitVec.ofInt_toInt]
theorem bv_and (x y : Int) : BitVec.ofInt 32 (bAnd x y) = BitVec.ofInt 32 x &&& BitVec.ofInt 32 y := bv_of _
theorem bv_or (x y : Int) : BitVec.ofInt 32 (bOr x y) = BitVec.ofInt 32 x ||| BitVec.ofInt 32 y := bv_of _
theorem bv_xor (x y : Int) : BitVec.ofInt 32 (bXor x y) = BitVec.ofInt 32 x ^^^ BitVec.ofInt 32 y := bv_of _
theorem bv_shl {x k : Int} (h0 : 0 ≤ k) (h : k < 32) : BitVec.ofInt 32 (bShl x k) = BitVec.ofInt 32 x <<< k.toNat := by
  refine (bv_of _).trans ?_
  show BitVec.ofInt 32 x <<< ((Int32.ofInt k &&& 31).toBitVec.smod 32) = _
  rw [BitVec.shiftLeft_eq', sm32 h0 h]
theorem bv_shr {x k : Int} (h0 : 0 ≤ k) (h : k < 32) : BitVec.ofInt 32 (bShr x k) = (BitVec.ofInt 32 x).sshiftRight k.toNat := by
  refine (bv_of _).trans ?_
  show (BitVec.ofInt 32 x).sshiftRight ((Int32.ofInt k &&& 31).toBitVec.smod 32).toNat = _
  rw [sm32 h0 h]
theorem tb_and (x y k : Int) : tb (bAnd x y) k = (tb x k && tb y k) := by unfold tb; rw [bv_and, BitVec.getLsbD_and]
theorem tb_or (x y k : Int) : tb (bOr x y) k = (tb x k || tb y k) := by unfold tb; rw [bv_or, BitVec.getLsbD_or]
theorem tb_xor (x y k : Int) : tb (bXor x y) k = (tb x k ^^ tb y k) := by unfold tb; rw [bv_xor, BitVec.getLsbD_xor]
theorem tb_0 (k : Int) : tb 0 k = false := by
  unfold tb
  show (0#32).getLsbD _ = false
  exact BitVec.getLsbD_zero
theorem tb_m1 {k : Int} (h : k < 32) : tb (-1) k = true := by
  unfold tb
  show (BitVec.ofInt 32 (-1)).getLsbD _ = true
  have : BitVec.ofInt 32 (-1) = BitVec.allOnes 32 := by decide
  rw [this, BitVec.getLsbD_allOnes]
  exact decide_eq_true (by omega)
theorem tb_one {g k : Int} (h0 : 0 ≤ g) (h : g < 32) (k0 : 0 ≤ k) : tb (bShl 1 g) k = decide (k = g) := by
  unfold tb
  rw [bv_shl h0 h, BitVec.getLsbD_shiftLeft]
  show (decide (k.toNat < 32) && !decide (k.toNat < g.toNat) && (BitVec.ofInt 32 1).getLsbD (k.toNat - g.toNat)) = _
  rw [show BitVec.ofInt 32 1 = 1#32 by decide, BitVec.getLsbD_one]
  by_cases e : k = g
  · subst e
    simp
    omega
  · simp [e]
    omega
theorem tb_has {x k : Int} (h0 : 0 ≤ k) (h : k < 32) : bAnd (bShr x k) 1 = if tb x k = true then 1 else 0 := by
  have e : BitVec.ofInt 32 (bAnd (bShr x k) 1) = if tb x k = true then 1#32 else 0#32 := by
    rw [bv_and, bv_shr h0 h]
    refine BitVec.eq_of_getLsbD_eq fun i hi => ?_
    rw [BitVec.getLsbD_and, show BitVec.ofInt 32 1 = 1#32 by decide, BitVec.getLsbD_one, BitVec.getLsbD_sshiftRight]
    unfold tb
    by_cases i0 : i = 0
    · subst i0
      have : k.toNat < 32 := by omega
      simp [this]
      by_cases q : (BitVec.ofInt 32 x)[k.toNat] = true
      · rw [if_pos q, q]; rfl
      · rw [if_neg q]
        simp at q
        rw [q]; rfl
    · simp [i0]
      split <;> simp [i0]
  have e2 : (BitVec.ofInt 32 (bAnd (bShr x k) 1)).toInt = bAnd (bShr x k) 1 := by
    have : i32 (bAnd (bShr x k) 1) := i32_of _
    rw [BitVec.toInt_ofInt]
    exact Int.bmod_eq_of_le (by have := this.1; omega) (by have := this.2; omega)
  rw [← e2, e]
  split <;> rfl
theorem tb_ext {x y : Int} (hx : i32 x) (hy : i32 y) (h : ∀ k : Int, 0 ≤ k → k < 32 → tb x k = tb y k) : x = y := by
  have e : BitVec.ofInt 32 x = BitVec.ofInt 32 y := BitVec.eq_of_getLsbD_eq fun i hi => by
    have := h i (by omega) (by omega)
    unfold tb at this
    simpa using this
  have e2 := congrArg BitVec.toInt e
  rw [BitVec.toInt_ofInt, BitVec.toInt_ofInt, Int.bmod_eq_of_le (by have := hx.1; omega) (by have := hx.2; omega), Int.bmod_eq_of_le (by have := hy.1; omega) (by have := hy.2; omega)] at e2
  exact e2
theorem i32_bAnd (x y : Int) : i32 (bAnd x y) := i32_of _
theorem i32_bOr (x y : Int) : i32 (bOr x y) := i32_of _
theorem i32_bXor (x y : Int) : i32 (bXor x y) := i32_of _
theorem i32_bShl (x y : Int) : i32 (bShl x y) := i32_of _
theorem i32_bShr (x y : Int) : i32 (bShr x y) := i32_of _
/-- a set whose members are below 31 is no negative number -/
theorem tb_pos {x : Int} (hx : i32 x) (h : tb x 31 = false) : 0 ≤ x := by
  have e2 : (BitVec.ofInt 32 x).toInt = x := by
    rw [BitVec.toInt_ofInt]
    exact Int.bmod_eq_of_le (by have := hx.1; omega) (by have := hx.2; omega)
  unfold tb at h
  rw [← e2, BitVec.toInt_eq_msb_cond]
  have : (BitVec.ofInt 32 x).msb = false := by
    rw [BitVec.msb_eq_getLsbD_last]
    exact h
  rw [this]
  simp
  omega
/-- how many are in a set -/
def tbn : Nat → Int → Int
  | 0, _ => 0
  | k + 1, x => tbn k x + (if tb x k = true then 1 else 0)
theorem tbn_ge (k : Nat) (x : Int) : 0 ≤ tbn k x ∧ tbn k x ≤ k := by
  induction k with
  | zero => exact ⟨Int.le_refl _, Int.le_refl _⟩
  | succ k ih =>
    unfold tbn
    split <;> omega
theorem tbn_0 (k : Nat) : tbn k 0 = 0 := by
  induction k with
  | zero => rfl
  | succ k ih => unfold tbn; rw [ih, tb_0]; rfl
theorem tbn_congr {k : Nat} {x y : Int} (h : ∀ j : Int, 0 ≤ j → j < k → tb x j = tb y j) : tbn k x = tbn k y := by
  induction k with
  | zero => rfl
  | succ k ih =>
    unfold tbn
    rw [ih (fun j h0 h1 => h j h0 (by omega)), h k (by omega) (by omega)]
/-- one goes -/
theorem tbn_del {x y : Int} {b : Nat} : ∀ {k : Nat}, b < k → tb x b = true → tb y b = false → (∀ j : Int, 0 ≤ j → j < k → j ≠ b → tb y j = tb x j) → tbn k x = tbn k y + 1 := by
  intro k
  induction k with
  | zero => intro h; omega
  | succ k ih =>
    intro hb h1 h2 h3
    unfold tbn
    by_cases e : b = k
    · subst e
      rw [h1, h2, tbn_congr (x := x) (y := y) (fun j h0 hj => (h3 j h0 (by omega) (by omega)).symm)]
      simp
    · rw [ih (by omega) h1 h2 (fun j h0 hj hne => h3 j h0 (by omega) hne), h3 k (by omega) (by omega) (by omega)]
      omega
