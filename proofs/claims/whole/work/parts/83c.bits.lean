/-! Counting the bits of a number, as a whole. -/
theorem tbn_d {x m : Nat} (h : m < 32) : tbn (m + 1) ((x : Nat) : Int) = tbn m ((x : Nat) : Int) + ((x / 2 ^ m % 2 : Nat) : Int) := by
  have e : tb ((x : Nat) : Int) ((m : Nat) : Int) = x.testBit m := tb_nat (by omega) (by omega)
  show tbn m ((x : Nat) : Int) + (if tb ((x : Nat) : Int) ((m : Nat) : Int) = true then 1 else 0) = _
  rw [e, Nat.testBit_eq_decide_div_mod_eq]
  by_cases q : x / 2 ^ m % 2 = 1
  · rw [if_pos (decide_eq_true q), q]; rfl
  · have : x / 2 ^ m % 2 = 0 := by
      rcases Nat.mod_two_eq_zero_or_one (x / 2 ^ m) with w | w
      · exact w
      · exact absurd w q
    rw [if_neg (by rw [decide_eq_false q]; decide), this]; rfl
theorem tbn_8 {q r : Nat} (hr : r < 256) : ∀ m, m + 8 ≤ 32 → tbn (8 + m) ((256 * q + r : Nat) : Int) = ((bc8 r : Nat) : Int) + tbn m ((q : Nat) : Int) := by
  intro m
  induction m with
  | zero =>
    intro _
    show tbn 8 ((256 * q + r : Nat) : Int) = ((bc8 r : Nat) : Int) + 0
    rw [tbn_d (by decide), tbn_d (by decide), tbn_d (by decide), tbn_d (by decide), tbn_d (by decide), tbn_d (by decide), tbn_d (by decide), tbn_d (by decide)]
    show 0 + (((256 * q + r) / 1 % 2 : Nat) : Int) + (((256 * q + r) / 2 % 2 : Nat) : Int) + (((256 * q + r) / 4 % 2 : Nat) : Int) + (((256 * q + r) / 8 % 2 : Nat) : Int) + (((256 * q + r) / 16 % 2 : Nat) : Int) + (((256 * q + r) / 32 % 2 : Nat) : Int) + (((256 * q + r) / 64 % 2 : Nat) : Int) + (((256 * q + r) / 128 % 2 : Nat) : Int) = _
    have h0 : (256 * q + r) / 1 % 2 = r % 2 := by omega
    have h1 : (256 * q + r) / 2 % 2 = r / 2 % 2 := by omega
    have h2 : (256 * q + r) / 4 % 2 = r / 4 % 2 := by omega
    have h3 : (256 * q + r) / 8 % 2 = r / 8 % 2 := by omega
    have h4 : (256 * q + r) / 16 % 2 = r / 16 % 2 := by omega
    have h5 : (256 * q + r) / 32 % 2 = r / 32 % 2 := by omega
    have h6 : (256 * q + r) / 64 % 2 = r / 64 % 2 := by omega
    have h7 : (256 * q + r) / 128 % 2 = r / 128 % 2 := by omega
    rw [h0, h1, h2, h3, h4, h5, h6, h7]
    unfold bc8
    generalize r % 2 = y0
    generalize r / 2 % 2 = y1
    generalize r / 4 % 2 = y2
    generalize r / 8 % 2 = y3
    generalize r / 16 % 2 = y4
    generalize r / 32 % 2 = y5
    generalize r / 64 % 2 = y6
    generalize r / 128 % 2 = y7
    omega
  | succ m ih =>
    intro hm
    have e : (256 * q + r) / 2 ^ (8 + m) = q / 2 ^ m := by
      rw [Nat.pow_add, ← Nat.div_div_eq_div_mul]
      congr 1
      show (256 * q + r) / 256 = q
      omega
    show tbn ((8 + m) + 1) ((256 * q + r : Nat) : Int) = _
    rw [tbn_d (by omega), ih (by omega), tbn_d (x := q) (by omega), e, Int.add_assoc]
theorem tbn_32 {a b c d : Nat} (ha : a < 256) (hb : b < 256) (hc : c < 256) (hd : d < 256) : tbn 32 ((256 * (256 * (256 * d + c) + b) + a : Nat) : Int) = ((bc8 a + bc8 b + bc8 c + bc8 d : Nat) : Int) := by
  have e0 := tbn_8 (q := 0) hd 0 (by decide)
  have e1 := tbn_8 (q := d) hc 8 (by decide)
  have e2 := tbn_8 (q := 256 * d + c) hb 16 (by decide)
  have e3 := tbn_8 (q := 256 * (256 * d + c) + b) ha 24 (by decide)
  rw [show 256 * 0 + d = d by omega] at e0
  have z0 : tbn 0 ((0 : Nat) : Int) = 0 := rfl
  rw [z0] at e0
  show tbn (8 + 24) _ = _
  rw [e3]
  show _ + tbn (8 + 16) _ = _
  rw [e2]
  show _ + (_ + tbn (8 + 8) _) = _
  rw [e1]
  show _ + (_ + (_ + tbn (8 + 0) _)) = _
  rw [e0]
  omega
theorem t_bitCount {n : Nat} {σ : jS} {Q : Int → jS → Prop} {b : Int} (h : i32 b) (h0 : 0 ≤ b) (hq : Q (tbn 32 b) σ) : TrI n i_Integer_bitCount [ji b] σ Q := by
  obtain ⟨X, rfl⟩ := Int.eq_ofNat_of_zero_le h0
  have hX : X < 2147483648 := by have := h.2; omega
  obtain ⟨a, b, c, d, ha, hb, hc, hd, hx⟩ : ∃ a b c d, a < 256 ∧ b < 256 ∧ c < 256 ∧ d < 128 ∧ X = 256 * (256 * (256 * d + c) + b) + a := ⟨X % 256, X / 256 % 256, X / 65536 % 256, X / 16777216, by omega, by omega, by omega, by omega, by omega⟩
  rw [hx, tbn_32 ha hb hc (by omega)] at hq
  obtain ⟨ga1, ga2, ga3, ga4, ga5⟩ := bg_b a ha
  obtain ⟨gb1, gb2, gb3, gb4, gb5⟩ := bg_b b hb
  obtain ⟨gc1, gc2, gc3, gc4, gc5⟩ := bg_b c hc
  obtain ⟨gd1, gd2, gd3, gd4, gd5⟩ := bg_b d (by omega)
  have s1 := sw_1 a b c d ha hb hc
  have s2 := sw_2 (bg1 a) (bg1 b) (bg1 c) (bg1 d) ga1 gb1 gc1
  have s3 := sw_3 (bg2 (bg1 a)) (bg2 (bg1 b)) (bg2 (bg1 c)) (bg2 (bg1 d)) ga2 ⟨gb2, gb3⟩ ⟨gc2, gc3⟩ gd3
  rw [ga4, gb4, gc4, gd4] at s3
  have s4 := fun w v u => sw_4 (bc8 a) (bc8 b) (bc8 c) (bc8 d) w v u ga5 gb5 gc5 gd5
  rw [← hx] at s1
  generalize hY : 256 * (256 * (256 * bg1 d + bg1 c) + bg1 b) + bg1 a = Y at s1 s2
  generalize hZ : 256 * (256 * (256 * bg2 (bg1 d) + bg2 (bg1 c)) + bg2 (bg1 b)) + bg2 (bg1 a) = Z at s2 s3
  generalize hW : 256 * (256 * (256 * bc8 d + bc8 c) + bc8 b) + bc8 a = W at s3 s4
  have hA1 : (X / 2) &&& 1431655765 ≤ X / 2 := Nat.and_le_left
  have hYb : Y < 2147483648 := by omega
  have hZb : Z < 1200000000 := by omega
  have hWb : W < 150000000 := by omega
  have t4 := s4 W (W + W / 256) ((W + W / 256) + (W + W / 256) / 65536) rfl rfl rfl
  refine wp_Integer_bitCount ?_
  have e1 : bAnd (bUsh ((X : Nat) : Int) 1) 1431655765 = ((X / 2 &&& 1431655765 : Nat) : Int) := by
    rw [show bUsh ((X : Nat) : Int) 1 = ((X / 2 : Nat) : Int) from nUsh (k := 1) hX (by decide)]
    exact nAnd (m := 1431655765) (by omega) (by decide)
  have e2 : ((X : Nat) : Int) - ((X / 2 &&& 1431655765 : Nat) : Int) = ((Y : Nat) : Int) := by
    generalize X / 2 &&& 1431655765 = A at s1 hA1
    omega
  rw [e1, e2]
  have e3 : bAnd ((Y : Nat) : Int) 858993459 = ((Y &&& 858993459 : Nat) : Int) := nAnd (m := 858993459) hYb (by decide)
  have e4 : bAnd (bUsh ((Y : Nat) : Int) 2) 858993459 = ((Y / 4 &&& 858993459 : Nat) : Int) := by
    rw [show bUsh ((Y : Nat) : Int) 2 = ((Y / 4 : Nat) : Int) from nUsh (k := 2) hYb (by decide)]
    exact nAnd (m := 858993459) (by omega) (by decide)
  have e5 : ((Y &&& 858993459 : Nat) : Int) + ((Y / 4 &&& 858993459 : Nat) : Int) = ((Z : Nat) : Int) := by
    generalize Y &&& 858993459 = A at s2
    generalize Y / 4 &&& 858993459 = B at s2
    omega
  rw [e3, e4, e5]
  have e6 : bUsh ((Z : Nat) : Int) 4 = ((Z / 16 : Nat) : Int) := nUsh (k := 4) (by omega) (by decide)
  have e7 : ((Z : Nat) : Int) + ((Z / 16 : Nat) : Int) = ((Z + Z / 16 : Nat) : Int) := by omega
  rw [e6, e7]
  have e8 : bAnd ((Z + Z / 16 : Nat) : Int) 252645135 = ((W : Nat) : Int) := by
    rw [← s3]
    exact nAnd (m := 252645135) (by omega) (by decide)
  rw [e8]
  have e9 : bUsh ((W : Nat) : Int) 8 = ((W / 256 : Nat) : Int) := nUsh (k := 8) (by omega) (by decide)
  have e10 : ((W : Nat) : Int) + ((W / 256 : Nat) : Int) = ((W + W / 256 : Nat) : Int) := by omega
  rw [e9, e10]
  have e11 : bUsh ((W + W / 256 : Nat) : Int) 16 = (((W + W / 256) / 65536 : Nat) : Int) := nUsh (k := 16) (by omega) (by decide)
  have e12 : ((W + W / 256 : Nat) : Int) + (((W + W / 256) / 65536 : Nat) : Int) = (((W + W / 256) + (W + W / 256) / 65536 : Nat) : Int) := by omega
  rw [e11, e12]
  have e13 : bAnd (((W + W / 256) + (W + W / 256) / 65536 : Nat) : Int) 63 = ((bc8 a + bc8 b + bc8 c + bc8 d : Nat) : Int) := by
    rw [← t4]
    exact nAnd (m := 63) (by omega) (by decide)
  rw [e13]
  refine ⟨?_, ?_, ?_, ?_, ?_, hq⟩
  all_goals exact i32_nat (by omega)
