/-! The law's run in the machine. -/
section ZAk
variable {σ : jS} {A : zA} {L : Nat} {xs : Nat → Int32}
def jS0 (L : Nat) (xs : Nat → Int32) : jS := (fun _ _ => -1, fun F o i => if F = 800000 ∧ o = 0 then (xs i.toNat).toInt else -1, fun F o => if F = 800000 ∧ o = 0 then ((L : Nat) : Int) else -1, fun _ => 0, 1, 0)
def jD0 : jD := (fun _ _ => 0, fun _ _ => 0)
theorem gr2_le {x : Int} (h : gr2 x) : x ≤ 65536 := by unfold gr2 at h; omega
theorem gr3_le {x : Int} (h : gr3 x) : x ≤ 131072 := by unfold gr3 at h; omega
theorem pw4_le {x : Int} (h : pw4 x) : x ≤ 1048576 := by unfold pw4 at h; omega
theorem cI_room (h : cI σ A) : rc σ ≤ 600001 ∧ rz σ ≤ 7302250 := by
  obtain ⟨hZ, -, -, -, -, -, hA⟩ := h
  obtain ⟨f1, -⟩ := cAs_f hA
  obtain ⟨-, -, -, hM, ⟨g1, g2, g3, g4, g5, g6⟩, -, -, p1, p2, p3, p4⟩ := hZ
  have m1 := hM.2.2.2.2.2.2.2.1
  have hK := hM.2.2.2.2.2.2.2.2.2.2.2.2
  have k1 := cnP_le (ra σ 5005 0) 40
  have k2 := cnP_le (ra σ 2000 0) 128
  have k3 := hK.1
  have e : lens σ = rl σ 9003 0 + (rl σ 9004 0 + (rl σ 9005 0 + (rl σ 9006 0 + (rl σ 9007 0 + (rl σ 6001 0 + (rl σ 6001 1 + (rl σ 6001 2 + (rl σ 3001 0 + (rl σ 3001 1 + 0))))))))) := rfl
  have b1 := gr2_le g1
  have b4 := gr2_le g4
  have b5 := gr2_le g5
  have b6 := gr3_le g6
  have b7 := gr3_le f1
  have b8 := gr3_le m1
  have b9 := pw4_le p1
  have b10 := pw4_le p2
  clear g1 g4 g5 g6 f1 m1 p1 p2
  have hr : rk σ 0 ≤ 419 := by omega
  have hl : lens σ ≤ 2949120 := by omega
  constructor <;> omega
theorem jWF_0 (hL : L ≤ 3072) : jWF (jS0 L xs) := by
  have hx : ∀ i, i32 ((xs i).toInt) := fun i => ⟨(xs i).le_toInt, (xs i).toInt_lt⟩
  refine ⟨fun F o => ⟨by show (-2147483648 : Int) ≤ -1; decide, by show (-1 : Int) < 2147483648; decide⟩, fun F o i => ?_, fun F o k _ => by show (-1 : Int) < 0; decide, fun F o i hj => ?_, fun c => ⟨Int.le_refl _, by show (0 : Int) ≤ 2000000; decide⟩, fun F o => ?_, fun F o h0 hF => ?_⟩
  · show i32 (if F = 800000 ∧ o = 0 then (xs i.toNat).toInt else -1)
    split
    · exact hx _
    · exact ⟨by decide, by decide⟩
  · show (if F = 800000 ∧ o = 0 then (xs i.toNat).toInt else -1) < 0
    by_cases q : F = 800000 ∧ o = 0
    · rw [q.1] at hj
      exact absurd hj (by decide)
    · rw [if_neg q]; decide
  · show (if F = 800000 ∧ o = 0 then ((L : Nat) : Int) else -1) ≤ 2000000
    split <;> omega
  · have h0 : 0 ≤ (if F = 800000 ∧ o = 0 then ((L : Nat) : Int) else -1) := h0
    by_cases q : F = 800000 ∧ o = 0
    · omega
    · rw [if_neg q] at h0
      exact absurd h0 (by decide)
theorem rl_0 {F : Nat} {o : Int} (h : 0 ≤ rl (jS0 L xs) F o) : F = 800000 ∧ o = 0 := by
  have h0 : 0 ≤ (if F = 800000 ∧ o = 0 then ((L : Nat) : Int) else -1) := h
  by_cases q : F = 800000 ∧ o = 0
  · exact q
  · rw [if_neg q] at h0
    exact absurd h0 (by decide)
theorem jVw_0 : jVw jD0 (jS0 L xs) (ax_h0 L xs) := by
  refine ⟨fun c o o0 o1 => ?_, fun F o h => ?_, fun c o o' o0 o1 => ?_, fun F o F' o' h h' _ => ?_, fun c o o0 o1 => ?_, fun F o _ => by show 0 < 1; decide, fun F o h _ => (rl_0 h).1, rfl, rfl, Nat.le_refl _⟩
  · have : o < 0 := o1
    omega
  · obtain ⟨rfl, rfl⟩ := rl_0 h
    have e : jt 800000 = 0 := by decide
    rw [e]
    have e2 : (rl (jS0 L xs) 800000 0).toNat = L := by
      show (if (800000 : Nat) = 800000 ∧ (0 : Int) = 0 then ((L : Nat) : Int) else -1).toNat = L
      rw [if_pos ⟨rfl, rfl⟩]
      omega
    have e3 : jct jD0 0 (ra (jS0 L xs) 800000 0) = .inl xs := by
      unfold jct
      rw [if_neg (by decide), if_neg (by decide)]
      refine congrArg Sum.inl (funext fun j => ?_)
      show Int32.ofInt (if (800000 : Nat) = 800000 ∧ (0 : Int) = 0 then (xs ((j : Nat) : Int).toNat).toInt else -1) = xs j
      rw [if_pos ⟨rfl, rfl⟩, show ((j : Nat) : Int).toNat = j by omega]
      exact Int32.ofInt_toInt _
    rw [e2, e3]
    rfl
  · have : o < 0 := o1
    omega
  · obtain ⟨h1, h2⟩ := rl_0 h
    obtain ⟨h3, h4⟩ := rl_0 h'
    exact ⟨h1.trans h3.symm, h2.trans h4.symm⟩
  · have : o < 0 := o1
    omega
theorem kn_0 : kn [] [] [] [(12, 0), (0, 0), (1, 0), (2, 0), (3, 0), (4, 0), (5, 0), (6, 0), (7, 0), (8, 0), (9, 0), (10, 0), (11, 0)] 2 0 0 1 0 ((L : Nat) : Int) (jS0 L xs) := by
  refine ⟨?_, fun F o v h => (by cases h), fun F o v _ h => (by cases h), fun F o v _ h => (by cases h), fun c v h => ?_, ⟨rfl, rfl⟩, fun t => ?_, fun F o hF h => ?_, fun o o0 o1 => (by omega), fun j j0 j1 => (by omega), fun j j0 j1 => (by omega)⟩
  · show (if (800000 : Nat) = 800000 ∧ (0 : Int) = 0 then ((L : Nat) : Int) else -1) = _
    rw [if_pos ⟨rfl, rfl⟩]
  · have key : ∀ (l : List (Nat × Int)), (l.all (fun p => decide (p.2 = 0))) = true → ∀ v, kk l c = some v → v = 0 := by
      intro l
      induction l with
      | nil => intro _ v h; cases h
      | cons p l ih =>
        obtain ⟨k, w⟩ := p
        intro ha v h
        rw [List.all_cons, Bool.and_eq_true] at ha
        have h : (if c = k then some w else kk l c) = some v := h
        by_cases q : c = k
        · rw [if_pos q] at h
          have := of_decide_eq_true ha.1
          have := Option.some.inj h
          dsimp only at *
          omega
        · rw [if_neg q] at h
          exact ih ha.2 v h
    exact (key _ (by decide) v h).symm
  · show (if 900000 + t = 800000 ∧ (0 : Int) = 0 then ((L : Nat) : Int) else -1) < 0
    rw [if_neg (fun w => by have := w.1; omega)]
    decide
  · have := (rl_0 h).1
    omega
theorem jrel_0 : jrel jD0 [some (ja 800000 0), none, none, none] (ax_ent 4 [.ref 0]) := by
  refine ⟨rfl, fun i v hv => ?_⟩
  have e0 : ∀ (i : Nat) (v : jV), ([some (ja 800000 0), none, none, none] : List (Option jV))[i]? = some (some v) → i = 0 ∧ v = ja 800000 0 := by
    intro i v h
    match i with
    | 0 => exact ⟨rfl, (Option.some.inj (Option.some.inj h)).symm⟩
    | 1 => cases h
    | 2 => cases h
    | 3 => cases h
    | i + 4 => cases h
  obtain ⟨e1, e2⟩ := e0 i v hv
  rw [e1, e2]
  rfl
theorem jokL_0 : jokL (jS0 L xs) [some (ja 800000 0), none, none, none] := by
  intro v hv
  have e : v = ja 800000 0 := by
    simpa using hv
  rw [e]
  show 0 ≤ (if (800000 : Nat) = 800000 ∧ (0 : Int) = 0 then ((L : Nat) : Int) else -1)
  rw [if_pos ⟨rfl, rfl⟩]
  omega
theorem ax_runs (L : Nat) (xs : Nat → Int32) (hL : L ≤ 3072) : ∃ (n : Nat) (h' : ax_H), ax_run n room_1.frames room_1.locals ax_cL (some .boolean) 0 (ax_ent 4 [.ref 0]) [] (ax_h0 L xs) = some (some (.int 1), h') ∧ h'.1 ≤ 600000 + 1 ∧ h'.2.1 ≤ 7302250 := by
  have run := law_run (n := 128) (σ := jS0 L xs) (L := ((L : Nat) : Int)) rfl (by omega) (by omega) kn_0
  obtain ⟨d', H', r, σ', v1, v2, v3, v4, v5, n, v6⟩ := run jD0 (ax_h0 L xs) (ax_ent 4 [.ref 0]) jVw_0 (jWF_0 hL) jrel_0 jokL_0 (fun v hv => absurd hv (List.not_mem_nil))
  obtain ⟨x, hr, hx, A, hA⟩ := v5
  obtain ⟨b1, b2⟩ := cI_room hA
  obtain ⟨-, -, -, -, -, -, -, c1, c2, -⟩ := v1
  refine ⟨n, H', ?_, by omega, by omega⟩
  have := ax_run_up n v6 (show 128 ≤ room_1.frames by decide) (show 100 * 128 ≤ room_1.locals by decide) n (Nat.le_refl _)
  rw [hr, hx] at this
  exact this
end ZAk
