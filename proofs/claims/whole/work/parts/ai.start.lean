/-! What holds when both are made. -/
def isL : List ((Nat × Int) × Int) := [((12008, 0), -1), ((12009, 0), 0), ((12010, 0), 0), ((8000, 0), 0), ((11000, 0), 0), ((6000, 0), 0), ((6000, 2), 0), ((3002, 0), 0), ((3002, 1), 0), ((5000, 0), 0), ((7019, 0), 0), ((12005, 0), 0), ((12006, 0), 1), ((10000, 0), 0), ((10001, 0), 0), ((1, 247), 1), ((1, 248), 1), ((1, 249), 1), ((1, 250), 1), ((1001, 0), 0), ((1003, 0), -1), ((1013, 0), 0), ((1014, 0), 0), ((1015, 0), 0), ((1016, 0), 0), ((1051, 0), 0), ((1063, 0), 0), ((1065, 0), 0), ((1070, 0), 0), ((1133, 0), 0)] ++ ccT
def ilL : List ((Nat × Int) × Int) := [((9003, 0), 256), ((9004, 0), 256), ((9005, 0), 768), ((9006, 0), 256), ((9007, 0), 256), ((6001, 0), 256), ((6001, 1), 256), ((6001, 2), 256), ((3001, 0), 256), ((3001, 1), 256)] ++ clT ++ clfT.map (fun p => ((0, p.1), p.2)) ++ mlT.map (fun p => ((p.1, 0), p.2))
def iaL : List ((Nat × Int) × Int) := [((9004, 0), 0), ((5005, 0), -1), ((2000, 0), -1), ((0, 247), 0), ((0, 248), 0), ((0, 249), 0), ((0, 250), 0), ((1046, 0), 0)]
def zT0 : zT := (0, 0, fun _ => -1, fun _ => 0, fun _ => 0, fun _ => 0, fun _ _ => [])
def zA0 : zA := (zT0, [], [], -1, 0, 0, fun _ => [0], [], none)
section ZAi
variable {n : Nat} {σ : jS} {L C Z : Int} {fs fl fa : List ((Nat × Int) × Int)} {ks : List (Nat × Int)}
theorem tok_0 : tok zT0 := ⟨Int.le_refl _, by decide, Int.le_refl _, by decide, fun k k0 k1 => by
  have : k < 0 := k1
  omega, fun k k0 k1 => by
  have : k < 0 := k1
  omega⟩
theorem rwk_0 : rwk [0] := ⟨rfl, fun t ht => by
  have e : t = 0 := by simpa using ht
  rw [e]
  unfold thg
  omega, by decide⟩
theorem cnP_m1 : ∀ m : Nat, cnP (fun _ => -1) m = 0 := by
  intro m
  induction m with
  | zero => rfl
  | succ m ih =>
    unfold cnP
    rw [ih]
    rfl
set_option maxRecDepth 8000 in
theorem k_fin (K : kn fs fl fa ks 242 120 120 C Z L σ) (hs : (isL.all (fun p => decide (kf fs p.1.1 p.1.2 = some p.2))) = true) (hl : (ilL.all (fun p => decide (p.1.1 < 900000 ∧ kf fl p.1.1 p.1.2 = some p.2))) = true) (ha : (iaL.all (fun p => decide (p.1.1 < 900000 ∧ kf fa p.1.1 p.1.2 = some p.2))) = true) (hk : kk ks 0 = some 251) (hC : 256 * C ≤ 512000) (hZ : Z ≤ 1300000) (hY : ∀ i : Nat, i < 4 → ra σ 12001 0 ((i : Nat) : Int) = 247 + ((i : Nat) : Int)) (h11 : ra σ 12011 0 0 = -1) (h47 : ∀ i : Nat, i < 4 → ra σ 1047 0 ((i : Nat) : Int) = 1) : cI σ zA0 ∧ mI σ zA0 ∧ pI zA0 := by
  have qs : ∀ F o v, isL.contains ((F, o), v) = true → rs σ F o = v := fun F o v hm => K.s (of_decide_eq_true (List.all_eq_true.mp hs _ (List.contains_iff_mem.mp hm)))
  have ql : ∀ F o v, ilL.contains ((F, o), v) = true → rl σ F o = v := fun F o v hm => by
    have := of_decide_eq_true (List.all_eq_true.mp hl _ (List.contains_iff_mem.mp hm))
    exact K.l this.1 this.2
  have qa : ∀ F o v, iaL.contains ((F, o), v) = true → ra σ F o = fun _ => v := fun F o v hm => by
    have := of_decide_eq_true (List.all_eq_true.mp ha _ (List.contains_iff_mem.mp hm))
    exact K.a this.1 this.2
  have rk0 : rk σ 0 = 251 := K.k hk
  have hT := K.2.2.2.2.2.2.1
  obtain ⟨hrc, hrz⟩ := K.2.2.2.2.2.1
  have hfl := K.2.2.2.2.2.2.2.2.1
  have h10 := K.2.2.2.2.2.2.2.2.2.1
  have h11b := K.2.2.2.2.2.2.2.2.2.2
  have hlen : lens σ = 3072 := by
    unfold lens lenT
    simp only [List.map, List.sum_cons, List.sum_nil]
    rw [ql 9003 0 256 (by decide), ql 9004 0 256 (by decide), ql 9005 0 768 (by decide), ql 9006 0 256 (by decide), ql 9007 0 256 (by decide), ql 6001 0 256 (by decide), ql 6001 1 256 (by decide), ql 6001 2 256 (by decide), ql 3001 0 256 (by decide), ql 3001 1 256 (by decide)]
    decide
  have hcln : cln σ := fun p hp => by
    have := of_decide_eq_true (List.all_eq_true.mp hl p (List.mem_append_left _ (List.mem_append_left _ (List.mem_append_right _ hp))))
    exact K.l this.1 this.2
  have hmln : mln σ := fun p hp => by
    have := of_decide_eq_true (List.all_eq_true.mp hl ((p.1, 0), p.2) (List.mem_append_right _ (List.mem_map.mpr ⟨p, hp, rfl⟩)))
    exact K.l this.1 this.2
  have hcC : cC σ := by
    refine ⟨fun p hp => K.s (of_decide_eq_true (List.all_eq_true.mp hs p (List.mem_append_right _ hp))), fun p hp => ?_, fun j j0 j1 => hfl j j0 j1⟩
    have := of_decide_eq_true (List.all_eq_true.mp hl ((0, p.1), p.2) (List.mem_append_left _ (List.mem_append_right _ (List.mem_map.mpr ⟨p, hp, rfl⟩))))
    exact K.l this.1 this.2
  have hTx : cTx σ zT0 := by
    refine ⟨tok_0, 0, Or.inl rfl, qs 7019 0 0 (by decide), qs 12005 0 0 (by decide), qs 10000 0 0 (by decide), qs 10001 0 0 (by decide), fun j j0 j1 => ?_, fun k k0 k1 => ?_, fun g g0 g1 => ?_⟩
    · rw [h10 j j0 j1]; omega
    · have : k < 0 := k1
      omega
    · have : g < 0 := g1
      omega
  have a55 := qa 5005 0 (-1) (by decide)
  have a20 := qa 2000 0 (-1) (by decide)
  have hrkK : rkK σ := by
    unfold rkK
    rw [a55, a20, rk0]
    refine ⟨by rw [cnP_m1, cnP_m1]; decide, fun i j _ _ _ _ h _ => absurd h (show ¬ (0 : Int) ≤ -1 by decide), fun i j _ _ _ _ h _ => absurd h (show ¬ (0 : Int) ≤ -1 by decide), fun j _ _ h => absurd h (show ¬ (0 : Int) ≤ -1 by decide)⟩
  have hmem : memR σ [] := by
    refine ⟨qs 5000 0 0 (by decide), by decide, fun j hj => absurd hj (Nat.not_lt_zero j), fun i j _ _ _ _ h _ => ?_, fun j _ _ h => ?_, qs 6000 0 0 (by decide), ?_, ?_, ?_, ?_, ?_, ?_, hrkK⟩
    · rw [a55] at h; exact absurd h (show ¬ (0 : Int) ≤ -1 by decide)
    · rw [a55] at h; exact absurd h (show ¬ (0 : Int) ≤ -1 by decide)
    · rw [qs 6000 0 0 (by decide), ql 6001 0 256 (by decide)]; decide
    · rw [ql 6001 0 256 (by decide)]; exact Or.inl rfl
    · rw [qs 3002 0 0 (by decide)]; decide
    · rw [qs 3002 0 0 (by decide), qs 6000 0 0 (by decide)]; decide
    · rw [qs 3002 0 0 (by decide), ql 3001 0 256 (by decide)]; decide
    · rw [ql 3001 0 256 (by decide)]; decide
  have hcZ : cZ σ zT0 [] := by
    refine ⟨hcln, hcC, hTx, hmem, ⟨?_, ?_, ?_, ?_, ?_, ?_⟩, fun i _ _ => ?_, hT, ?_, ?_, ?_, ?_⟩
    · rw [ql 9003 0 256 (by decide)]; exact Or.inl rfl
    · rw [ql 9004 0 256 (by decide), ql 9003 0 256 (by decide)]
    · rw [ql 9005 0 768 (by decide), ql 9003 0 256 (by decide)]; decide
    · rw [ql 9006 0 256 (by decide)]; exact Or.inl rfl
    · rw [ql 9007 0 256 (by decide)]; exact Or.inl rfl
    · rw [ql 6001 1 256 (by decide)]; exact Or.inl rfl
    · rw [qa 9004 0 0 (by decide)]
    · rw [ql 3001 0 256 (by decide)]; exact Or.inl rfl
    · rw [ql 3001 1 256 (by decide)]; exact Or.inl rfl
    · rw [hrc, hlen, rk0]; omega
    · rw [hrz, hlen, rk0]; omega
  have hY2 : pYc σ (fun _ => [0]) := fun i hi => by
    refine ⟨rwk_0, hY i hi, ?_⟩
    have : i = 0 ∨ i = 1 ∨ i = 2 ∨ i = 3 := by omega
    have go : ∀ o : Int, 0 ≤ o → rs σ 1 o = 1 → rl σ 0 o = 12 → (ra σ 0 o = fun _ => 0) → fT σ o [0] := fun o o0 w1 w2 w3 => ⟨o0, by rw [w1]; rfl, by rw [w2]; decide, fun p hp => by
      have e : p = 0 := by
        have : p < 1 := hp
        omega
      rw [w3, e]
      rfl⟩
    rcases this with w | w | w | w <;> rw [w]
    · exact go 247 (by decide) (qs 1 247 1 (by decide)) (ql 0 247 12 (by decide)) (qa 0 247 0 (by decide))
    · exact go 248 (by decide) (qs 1 248 1 (by decide)) (ql 0 248 12 (by decide)) (qa 0 248 0 (by decide))
    · exact go 249 (by decide) (qs 1 249 1 (by decide)) (ql 0 249 12 (by decide)) (qa 0 249 0 (by decide))
    · exact go 250 (by decide) (qs 1 250 1 (by decide)) (ql 0 250 12 (by decide)) (qa 0 250 0 (by decide))
  refine ⟨⟨hcZ, ⟨fun tx htx j j0 j1 => ?_, ?_⟩, cTp_nil (qs 8000 0 0 (by decide)), ⟨qs 12008 0 (-1) (by decide), qs 12009 0 0 (by decide), qs 12010 0 0 (by decide)⟩, hY2, ⟨qs 11000 0 0 (by decide), fun i hi => absurd hi (Nat.not_lt_zero i)⟩, h11, qs 6000 2 0 (by decide), trivial, ?_⟩, ⟨hmln, ⟨tok_0, qs 1013 0 0 (by decide), qs 1014 0 0 (by decide), fun k k0 k1 => ?_, fun g g0 g1 => ?_, fun i j i0 i1 => ?_⟩, ⟨qs 1070 0 0 (by decide), by decide, fun j hj => absurd hj (Nat.not_lt_zero j), ?_, ?_, ?_, fun m m0 m1 => ?_⟩, mTp_nil (qs 1001 0 0 (by decide)), ⟨qs 1003 0 (-1) (by decide), qs 1015 0 0 (by decide), qs 1016 0 0 (by decide)⟩, fun i hi => ?_, ⟨qs 1133 0 0 (by decide), fun i hi => absurd hi (Nat.not_lt_zero i)⟩, qs 1051 0 0 (by decide)⟩, gdM_nil _, rmM_nil, trivial, Nat.zero_le _⟩
  · rcases htx with w | w
    · rw [w, h10 j j0 j1]; omega
    · rw [w, h11b j j0 j1]; omega
  · rw [qs 12006 0 1 (by decide), qs 12005 0 0 (by decide)]
    decide
  · unfold fok
    rw [qs 6000 2 0 (by decide), ql 6001 2 256 (by decide), qs 3002 1 0 (by decide), ql 3001 1 256 (by decide)]
    exact ⟨by decide, by decide, Or.inl rfl, by decide, by decide, by decide, by decide⟩
  · have : k < 0 := k1
    omega
  · have : g < 0 := g1
    omega
  · intro _ _
    have : i < 0 := i1
    omega
  · rw [qs 1063 0 0 (by decide)]; decide
  · rw [qs 1065 0 0 (by decide)]; decide
  · rw [qs 1065 0 0 (by decide), qs 1063 0 0 (by decide)]; decide
  · rw [qs 1063 0 0 (by decide)] at m1
    omega
  · refine ⟨rwk_0, h47 i hi, by omega, ?_, fun p hp => ?_⟩
    · rw [ql 1046 0 48 (by decide)]
      show 12 * ((i : Nat) : Int) + 1 ≤ 48
      omega
    · have e : p = 0 := by
        have : p < 1 := hp
        omega
      rw [qa 1046 0 0 (by decide), e]
      rfl
/-- some rows stay -/
def kr (P : Nat → Bool) (σ σ' : jS) : Prop := ∀ F, F < 900000 → P F = true → ra σ' F 0 = ra σ F 0
theorem kr.rf (P : Nat → Bool) (σ : jS) : kr P σ σ := fun _ _ _ => rfl
theorem kr.mA {P : Nat → Bool} {σ1 s1 s2 : jS} {t F : Nat} {len o : Int} (h : kr P σ1 σ) (e : s1 = nA σ t len) (e2 : s2 = Jvm.Pilot.CGivenSearchLaw_law_r1920_7b7b70.mA s1 t F o) (hP : P F = false) : kr P σ1 s2 := fun G hG hPG => by
  rw [e2, raf_mA, if_neg (fun w => by rw [w.1, hP] at hPG; cases hPG), e, raf_nA, if_neg (fun w => by have := w.1; unfold jtmp at this; omega)]
  exact h G hG hPG
theorem kr.mO {P : Nat → Bool} {σ1 s1 : jS} {c : Nat} (h : kr P σ1 σ) (e : s1 = nO σ c) : kr P σ1 s1 := fun G hG hPG => by
  rw [e, raf_nO]
  exact h G hG hPG
theorem kr.mW {P : Nat → Bool} {σ1 s1 : jS} {F : Nat} {o v : Int} (h : kr P σ1 σ) (e : s1 = ws σ F o v) : kr P σ1 s1 := fun G hG hPG => by
  rw [e]
  exact h G hG hPG
theorem kr.mR {P : Nat → Bool} {σ1 s1 : jS} {F : Nat} {o i v : Int} (h : kr P σ1 σ) (e : s1 = wa σ F o i v) (hP : P F = false) : kr P σ1 s1 := fun G hG hPG => by
  rw [e]
  unfold wa
  rw [raf_wA, if_neg (fun w => by rw [w.1, hP] at hPG; cases hPG)]
  exact h G hG hPG
/-- the row of lengths that is written out -/
theorem kn.told {B t0 t1 : Int} {s1 s2 s3 s4 s5 s6 : jS} (h : kn fs fl fa ks B t0 t1 C Z L σ) (e1 : s1 = nA σ 0 4) (e2 : s2 = wa s1 900000 0 0 1) (e3 : s3 = wa s2 900000 0 1 1) (e4 : s4 = wa s3 900000 0 2 1) (e5 : s5 = wa s4 900000 0 3 1) (e6 : s6 = mA s5 0 1047 0) (hn : kf fl 1047 0 = none) (ha : kf fa 1047 0 = none) : kn fs (((1047, 0), 4) :: fl) fa ks B t0 t1 (C + 1) (Z + 4) L s6 ∧ (∀ i : Nat, i < 4 → ra s6 1047 0 ((i : Nat) : Int) = 1) ∧ ∀ F, F < 900000 → ¬ F = 1047 → ra s6 F 0 = ra σ F 0 := by
  obtain ⟨h0, h1, h2, h3, h4, ⟨h5, h5b⟩, h6, h7, hb, h9, h10⟩ := h
  have rl5 : ∀ G x, rl s5 G x = rl s1 G x := fun G x => by rw [e5, e4, e3, e2]; rfl
  have rl6 : ∀ G x, G < 900000 → rl s6 G x = if G = 1047 ∧ x = 0 then 4 else rl σ G x := fun G x hG => by
    rw [e6, rl_mA]
    by_cases q : G = 1047 ∧ x = 0
    · rw [if_pos q, if_pos q, rl5, e1, rl_nA, if_pos ⟨rfl, rfl⟩]
    · rw [if_neg q, if_neg q, if_neg (fun w => by have := w.1; unfold jtmp at this; omega), rl5, e1, rl_nA, if_neg (fun w => by have := w.1; unfold jtmp at this; omega)]
  have ra5 : ∀ G x, G < 900000 → ra s5 G x = ra σ G x := fun G x hG => by
    rw [e5, e4, e3, e2, e1]
    unfold wa
    rw [raf_wA, if_neg (fun w => by omega), raf_wA, if_neg (fun w => by omega), raf_wA, if_neg (fun w => by omega), raf_wA, if_neg (fun w => by omega), raf_nA, if_neg (fun w => by have := w.1; unfold jtmp at this; omega)]
  have ra6 : ∀ G x, G < 900000 → ¬ (G = 1047 ∧ x = 0) → ra s6 G x = ra σ G x := fun G x hG q => by
    rw [e6, raf_mA, if_neg q]
    exact ra5 G x hG
  refine ⟨⟨by rw [rl6 800000 0 (by decide), if_neg (by decide)]; exact h0, fun G x w hw => ?_, fun G x w hG hw => ?_, fun G x w hG hw => ?_, fun c' w hw => ?_, ⟨?_, ?_⟩, fun t' => ?_, fun G x hG hp => ?_, fun x x0 x1 => ?_, fun j j0 j1 => ?_, fun j j0 j1 => ?_⟩, fun i hi => ?_, fun F hF hne => ra6 F 0 hF (fun w => hne w.1)⟩
  · rw [e6, e5, e4, e3, e2, e1]
    exact h1 G x w hw
  · have hw : (if G = 1047 ∧ x = 0 then some (4 : Int) else kf fl G x) = some w := hw
    rw [rl6 G x hG]
    by_cases q : G = 1047 ∧ x = 0
    · rw [if_pos q] at hw ⊢
      cases hw
      rfl
    · rw [if_neg q] at hw ⊢
      exact h2 G x w hG hw
  · by_cases q : G = 1047 ∧ x = 0
    · rw [q.1, q.2, ha] at hw
      cases hw
    · rw [ra6 G x hG q]
      exact h3 G x w hG hw
  · rw [e6, e5, e4, e3, e2, e1]
    exact h4 c' w hw
  · rw [← h5, e6, e5, e4, e3, e2, e1]; rfl
  · rw [← h5b, e6, e5, e4, e3, e2, e1]; rfl
  · rw [e6, rl_mA, if_neg (fun w => by have := w.1; unfold jtmp at this; omega)]
    by_cases q : jtmp t' = jtmp 0
    · rw [if_pos ⟨q, rfl⟩]; decide
    · rw [if_neg (fun w => q w.1), rl5, e1, rl_nA, if_neg (fun w => q w.1)]
      exact h6 t'
  · rw [rl6 G x (by omega)] at hp
    show (if G = 1047 ∧ x = 0 then some (4 : Int) else kf fl G x) ≠ none ∨ _
    by_cases q : G = 1047 ∧ x = 0
    · rw [if_pos q]
      exact Or.inl (fun w => by cases w)
    · rw [if_neg q] at hp ⊢
      exact h7 G x hG hp
  · rw [rl6 0 x (by decide), if_neg (fun w => by have := w.1; omega)]
    exact hb x x0 x1
  · rw [ra6 10008 0 (by decide) (by decide)]
    exact h9 j j0 j1
  · rw [ra6 10008 1 (by decide) (by decide)]
    exact h10 j j0 j1
  · rw [e6, raf_mA, if_pos ⟨rfl, rfl⟩, e5, e4, e3, e2]
    unfold wa
    have : i = 0 ∨ i = 1 ∨ i = 2 ∨ i = 3 := by omega
    rcases this with w | w | w | w <;> rw [w] <;> rfl
end ZAi
