/-! Counting the bits of a number. -/
theorem ush_a : ∀ m, m < 32 → (((Int32.ofInt ((m : Nat) : Int)).toUInt32 &&& Int32.toUInt32 31) % 32).toBitVec.toNat = m := by decide +kernel
theorem bv_ush {x : Int} {k : Nat} (h : k < 32) : BitVec.ofInt 32 (bUsh x ((k : Nat) : Int)) = BitVec.ofInt 32 x >>> k := by
  refine (bv_of _).trans ?_
  show BitVec.ofInt 32 x >>> (((Int32.ofInt ((k : Nat) : Int)).toUInt32 &&& Int32.toUInt32 31) % 32).toBitVec = _
  rw [BitVec.ushiftRight_eq', ush_a k h]
theorem tb_nat {a : Nat} {k : Int} (k0 : 0 ≤ k) (k1 : k < 32) : tb ((a : Nat) : Int) k = a.testBit k.toNat := by
  unfold tb
  rw [BitVec.ofInt_natCast, BitVec.getLsbD_ofNat, decide_eq_true (show k.toNat < 32 by omega), Bool.true_and]
theorem i32_nat {d : Nat} (h : d < 2147483648) : i32 ((d : Nat) : Int) := ⟨by omega, by omega⟩
theorem nUsh {a k : Nat} (ha : a < 2147483648) (hk : k < 32) : bUsh ((a : Nat) : Int) ((k : Nat) : Int) = ((a / 2 ^ k : Nat) : Int) := by
  have h1 : a / 2 ^ k ≤ a := Nat.div_le_self _ _
  refine tb_ext (i32_of _) (i32_nat (Nat.lt_of_le_of_lt h1 ha)) (fun j j0 j1 => ?_)
  rw [tb_nat j0 j1]
  unfold tb
  rw [bv_ush hk, BitVec.getLsbD_ushiftRight, BitVec.ofInt_natCast, BitVec.getLsbD_ofNat, Nat.testBit_div_two_pow]
  by_cases q : k + j.toNat < 32
  · rw [decide_eq_true q, Bool.true_and, Nat.add_comm]
  · rw [decide_eq_false q, Bool.false_and]
    symm
    refine Nat.testBit_lt_two_pow (Nat.lt_of_lt_of_le ha ?_)
    show (2 : Nat) ^ 31 ≤ _
    exact Nat.pow_le_pow_right (by decide) (by omega)
theorem nAnd {a m : Nat} (ha : a < 2147483648) (hm : m < 2147483648) : bAnd ((a : Nat) : Int) ((m : Nat) : Int) = ((a &&& m : Nat) : Int) := by
  have h1 : a &&& m ≤ a := Nat.and_le_left
  refine tb_ext (i32_bAnd _ _) ⟨by omega, by omega⟩ (fun j j0 j1 => ?_)
  rw [tb_and, tb_nat j0 j1, tb_nat j0 j1, tb_nat j0 j1, Nat.testBit_and]
theorem land_two (q r M m : Nat) (hr : r < 256) (hm : m < 256) : (256 * q + r) &&& (256 * M + m) = 256 * (q &&& M) + (r &&& m) := by
  have h2 : r &&& m < 2 ^ 8 := Nat.lt_of_le_of_lt Nat.and_le_left hr
  refine Nat.eq_of_testBit_eq (fun i => ?_)
  show ((2 ^ 8 * q + r) &&& (2 ^ 8 * M + m)).testBit i = (2 ^ 8 * (q &&& M) + (r &&& m)).testBit i
  rw [Nat.testBit_and, Nat.testBit_two_pow_mul_add q (i := 8) hr, Nat.testBit_two_pow_mul_add M (i := 8) hm, Nat.testBit_two_pow_mul_add _ h2]
  by_cases c : i < 8
  · rw [if_pos c, if_pos c, if_pos c, Nat.testBit_and]
  · rw [if_neg c, if_neg c, if_neg c, Nat.testBit_and]
def bg1 (r : Nat) : Nat := r - ((r / 2) &&& 85)
def bg2 (r : Nat) : Nat := (r &&& 51) + ((r / 4) &&& 51)
def bg3 (r : Nat) : Nat := (r + r / 16) &&& 15
def bc8 (r : Nat) : Nat := r % 2 + r / 2 % 2 + r / 4 % 2 + r / 8 % 2 + r / 16 % 2 + r / 32 % 2 + r / 64 % 2 + r / 128 % 2
theorem bg1_a : ∀ r, r < 256 → (128 + r / 2) &&& 85 = (r / 2) &&& 85 := by decide +kernel
theorem bg2_a : ∀ r, r < 256 → (64 + r / 4) &&& 51 = (r / 4) &&& 51 ∧ (128 + r / 4) &&& 51 = (r / 4) &&& 51 ∧ (192 + r / 4) &&& 51 = (r / 4) &&& 51 := by decide +kernel
theorem bg_b : ∀ r, r < 256 → bg1 r < 256 ∧ bg2 (bg1 r) ≤ 68 ∧ bg2 (bg1 r) % 16 ≤ 4 ∧ bg3 (bg2 (bg1 r)) = bc8 r ∧ bc8 r ≤ 8 := by decide +kernel
theorem bs1 (q r M : Nat) (hr : r < 256) : (256 * q + r) - (((256 * q + r) / 2) &&& (256 * M + 85)) = 256 * (q - ((q / 2) &&& M)) + bg1 r := by
  have e : (256 * q + r) / 2 = 256 * (q / 2) + (128 * (q % 2) + r / 2) := by omega
  rw [e, land_two _ _ _ _ (by omega) (by decide)]
  have e2 : (128 * (q % 2) + r / 2) &&& 85 = (r / 2) &&& 85 := by
    rcases Nat.mod_two_eq_zero_or_one q with w | w
    · rw [w, Nat.mul_zero, Nat.zero_add]
    · rw [w]; exact bg1_a r hr
  have h1 : (q / 2) &&& M ≤ q / 2 := Nat.and_le_left
  have h2 : (r / 2) &&& 85 ≤ r / 2 := Nat.and_le_left
  rw [e2]
  unfold bg1
  omega
theorem bs2 (q r M : Nat) (hr : r < 256) : ((256 * q + r) &&& (256 * M + 51)) + (((256 * q + r) / 4) &&& (256 * M + 51)) = 256 * ((q &&& M) + ((q / 4) &&& M)) + bg2 r := by
  have e : (256 * q + r) / 4 = 256 * (q / 4) + (64 * (q % 4) + r / 4) := by omega
  rw [e, land_two _ _ _ _ hr (by decide), land_two _ _ _ _ (by omega) (by decide)]
  have e2 : (64 * (q % 4) + r / 4) &&& 51 = (r / 4) &&& 51 := by
    obtain ⟨a1, a2, a3⟩ := bg2_a r hr
    have : q % 4 = 0 ∨ q % 4 = 1 ∨ q % 4 = 2 ∨ q % 4 = 3 := by omega
    rcases this with w | w | w | w
    · rw [w, Nat.mul_zero, Nat.zero_add]
    · rw [w]; exact a1
    · rw [w]; exact a2
    · rw [w]; exact a3
  rw [e2]
  unfold bg2
  omega
theorem bs3 (q r M : Nat) (hr : r ≤ 68) (hq : q % 16 ≤ 4) : ((256 * q + r) + (256 * q + r) / 16) &&& (256 * M + 15) = 256 * ((q + q / 16) &&& M) + bg3 r := by
  have e : (256 * q + r) + (256 * q + r) / 16 = 256 * (q + q / 16) + (16 * (q % 16) + (r + r / 16)) := by omega
  rw [e, land_two _ _ _ _ (by omega) (by decide)]
  have e2 : (16 * (q % 16) + (r + r / 16)) &&& 15 = (r + r / 16) &&& 15 := by
    rw [show (15 : Nat) = 2 ^ 4 - 1 from rfl, Nat.and_two_pow_sub_one_eq_mod, Nat.and_two_pow_sub_one_eq_mod]
    omega
  rw [e2]
  rfl
theorem sw_1 (a b c d : Nat) (ha : a < 256) (hb : b < 256) (hc : c < 256) : (256 * (256 * (256 * d + c) + b) + a) - (((256 * (256 * (256 * d + c) + b) + a) / 2) &&& 1431655765) = 256 * (256 * (256 * bg1 d + bg1 c) + bg1 b) + bg1 a := by
  rw [show (1431655765 : Nat) = 256 * (256 * (256 * 85 + 85) + 85) + 85 from rfl, bs1 _ _ _ ha, bs1 _ _ _ hb, bs1 _ _ _ hc]
  rfl
theorem sw_2 (a b c d : Nat) (ha : a < 256) (hb : b < 256) (hc : c < 256) : ((256 * (256 * (256 * d + c) + b) + a) &&& 858993459) + (((256 * (256 * (256 * d + c) + b) + a) / 4) &&& 858993459) = 256 * (256 * (256 * bg2 d + bg2 c) + bg2 b) + bg2 a := by
  rw [show (858993459 : Nat) = 256 * (256 * (256 * 51 + 51) + 51) + 51 from rfl, bs2 _ _ _ ha, bs2 _ _ _ hb, bs2 _ _ _ hc]
  rfl
theorem sw_3 (a b c d : Nat) (ha : a ≤ 68) (hb : b ≤ 68 ∧ b % 16 ≤ 4) (hc : c ≤ 68 ∧ c % 16 ≤ 4) (hd : d % 16 ≤ 4) : ((256 * (256 * (256 * d + c) + b) + a) + (256 * (256 * (256 * d + c) + b) + a) / 16) &&& 252645135 = 256 * (256 * (256 * bg3 d + bg3 c) + bg3 b) + bg3 a := by
  rw [show (252645135 : Nat) = 256 * (256 * (256 * 15 + 15) + 15) + 15 from rfl, bs3 _ _ _ ha (by omega), bs3 _ _ _ hb.1 (by omega), bs3 _ _ _ hc.1 hd]
  rfl
theorem sw_4 (a b c d w v u : Nat) (ha : a ≤ 8) (hb : b ≤ 8) (hc : c ≤ 8) (hd : d ≤ 8) (hw : w = 256 * (256 * (256 * d + c) + b) + a) (hv : v = w + w / 256) (hu : u = v + v / 65536) : u &&& 63 = a + b + c + d := by
  rw [show (63 : Nat) = 2 ^ 6 - 1 from rfl, Nat.and_two_pow_sub_one_eq_mod]
  have e1 : w / 256 = 256 * (256 * d + c) + b := by omega
  have e2 : v / 65536 = 256 * d + (d + c) := by omega
  rw [hu, e2, hv, e1, hw]
  show _ % 64 = _
  omega
