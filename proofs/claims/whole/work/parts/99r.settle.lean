/-! What was read is the text of the class. -/
theorem cTx_of {σ : jS} {tx : Int} {X : zX} (htx : tx = 0 ∨ tx = 1) (hX : txI X) (h : cNx σ tx X) (h19 : rs σ 7019 0 = tx) (h05 : rs σ 12005 0 = tx) (hP : ∀ j, 0 ≤ j → j < 120 → ra σ 10008 tx j = 2 + 120 * tx + j) (hC : ∀ g : Int, 0 ≤ g → g < ((X.2.2.length : Nat) : Int) → bse (ra σ 10009 tx g) (fun c => 0 ≤ c ∧ c < ((X.2.2.length : Nat) : Int) ∧ becm (tR (txT X) g 0) (tR (txT X) c 0))) : cTx σ (txT X) := by
  obtain ⟨t1, t2, t3, t4⟩ := h
  refine ⟨txI_tok hX, tx, htx, h19, h05, t1, t2, hP, fun k k0 k1 => ?_, fun g g0 g1 => ?_⟩
  · have k1' : k < ((X.1.length : Nat) : Int) := k1
    have := t3 k.toNat (by omega)
    rw [Int.toNat_of_nonneg k0] at this
    exact this
  · have g1' : g < ((X.2.2.length : Nat) : Int) := g1
    obtain ⟨b1, b2, b3⟩ := t4 g.toNat (by omega)
    rw [Int.toNat_of_nonneg g0] at b1 b2 b3
    refine ⟨b1, b2, fun i hi => ?_, hC g g0 g1'⟩
    have hi' : ((i : Nat) : Int) ≤ (((txG X g).2.length : Nat) : Int) - 1 := hi
    exact b3 i (by
      show i < (txG X g).2.length
      omega)
