/-! Whether a goal is taken into what is remembered: the class. -/
section ZTx
variable {n : Nat} {σ : jS} {M : zM}
theorem c_takes {Q : Int → jS → Prop} {sc : Int} {r : List Int} (hn : 3 ≤ n) (hc : cln σ) (hM : memR σ M) (hr : fT σ 243 r) (hl : r.length ≤ 100) (ht : ∀ t, t ∈ r → t < 104) (hq1 : M.length < 40 → fndM M sc r = none → Q 1 σ) (hq0 : ¬ (M.length < 40 ∧ fndM M sc r = none) → Q 0 σ) : TrI n i_Memory_takes [jo 5 0, ji sc, jo 0 243] σ Q := by
  have h1 := hM.1
  refine wp_Memory_takes ⟨by omega, ?_⟩
  rw [h1]
  by_cases q : 40 ≤ M.length
  · rw [if_pos (by omega)]
    exact hq0 (fun w => by have := w.1; omega)
  · rw [if_neg (by omega)]
    refine ⟨by omega, by omega, c_find (by omega) hc hM hr hl ht ?_⟩
    cases e : fndM M sc r with
    | none =>
      show if ¬ (-1 : Int) = -1 then Q 0 σ else Q 1 σ
      rw [if_neg (fun w => w rfl)]
      exact hq1 (by omega) e
    | some j =>
      show if ¬ ((j : Nat) : Int) = -1 then Q 0 σ else Q 1 σ
      rw [if_pos (by omega)]
      exact hq0 (fun w => by rw [e] at w; cases w.2)
end ZTx
