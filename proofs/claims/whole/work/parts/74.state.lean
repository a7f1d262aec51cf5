/-! What a given one's nodes stand on; the class's search as it stands between two steps. -/
section ZSt
variable {n : Nat} {σ σ1 σ2 : jS} {g : zH} {N N0 : Int} {β E : List (Int × Int)} {x u t : Int} {T : zT} {vs : Int → Int} {ρ : Int → List Int}
theorem lns_fresh {k : Int} : ∀ (j i : Nat) (g : zH) (N : Int) (vs : Int → Int), N0 ≤ N → zok g N → 0 ≤ N → vok g N vs → (∀ v, ¬ vs v = -1 → N0 ≤ vs v) → (∀ i', i ≤ i' → i' < i + j → rwk (tR T k i')) → (∀ m, N ≤ m → m < (layNs T k j i g N vs).2.1 → ∀ q, q < pN (gh (layNs T k j i g N vs).1 m) → N0 ≤ gp (layNs T k j i g N vs).1 m q) ∧ (∀ y, y ∈ (layNs T k j i g N vs).2.2.2 → N0 ≤ y) ∧ ∀ ρ0, str g N ρ0 → ∃ ρ, str (layNs T k j i g N vs).1 (layNs T k j i g N vs).2.1 ρ ∧ ∀ m, m < N → ρ m = ρ0 m := by
  intro j
  induction j with
  | zero =>
    intro i g N vs _ _ _ _ _ _
    exact ⟨fun m m0 m1 => absurd m1 (by show ¬ m < N; omega), fun y hy => (by cases hy), fun ρ0 h => ⟨ρ0, h, fun _ _ => rfl⟩⟩
  | succ j ih =>
    intro i g N vs hN0 hz h0 hv hvs hr
    have hri := hr i (Nat.le_refl _) (by omega)
    have hl := lok_all hz h0 hv hri.1 hri.2.1
    have hrt := lay_root hl hri.1
    obtain ⟨l1, l2, l3, l4, l5, l6, l6b, -, -, -, -, -, l13, l14⟩ := hl
    have hvs2 : ∀ v, ¬ (layR (tR T k i) g N vs).2.2.1 v = -1 → N0 ≤ (layR (tR T k i) g N vs).2.2.1 v := fun v h => by
      by_cases q : vs v = -1
      · have := l6b v h q
        omega
      · rw [l6 v q]; exact hvs v q
    obtain ⟨p1, p2⟩ := l14 (fun m => N0 ≤ m) hvs2 (fun m hm => by omega)
    obtain ⟨a1, a2, a3, a4, a5, a6, a7, a8⟩ := lns_ok (T := T) (k := k) j (i + 1) _ _ _ l4 (by omega) l5 (fun i' h1 h2 => hr i' (by omega) (by omega))
    obtain ⟨c1, c2, c3⟩ := ih (i + 1) _ _ _ (by omega) l4 (by omega) l5 hvs2 (fun i' h1 h2 => hr i' (by omega) (by omega))
    refine ⟨fun m m0 m1 q hq => ?_, fun y hy => ?_, fun ρ0 h => ?_⟩
    · rcases Int.lt_or_le m (layR (tR T k i) g N vs).2.1 with w | w
      · have b := a3 m (by omega) w
        have hq' : q < pN (gh (layR (tR T k i) g N vs).1 m) := by rw [← b.1]; exact hq
        have := p1 m m0 w q hq'
        rw [← b.2 q] at this
        exact this
      · exact c1 m w m1 q hq
    · rcases List.mem_cons.mp hy with w | w
      · rw [w]; exact p2 _ hrt.2.2.2
      · exact c2 y w
    · obtain ⟨ρ1, r1, r2, r3⟩ := l13 ρ0 (fun v => if vs v = -1 then [0] else ρ0 (vs v)) h (fun v => by
        show Typ (if vs v = -1 then [0] else ρ0 (vs v))
        split
        · exact Typ_0
        · rename_i q
          have := (hv v).resolve_left q
          exact (h _ this.1 this.2.1).1) (fun v hv' => by rw [if_neg hv'])
      obtain ⟨ρ2, q1, q2⟩ := c3 ρ1 r1
      exact ⟨ρ2, q1, fun m hm => by rw [q2 m (by omega), r2 m hm]⟩
theorem lgv_fresh {k : Int} (hT : tok T) (k0 : 0 ≤ k) (k1 : k < tG T) (hz : zok g N) (h0 : 0 ≤ N) : (∀ m, N ≤ m → m < (layGv T k g N).2.1 → ∀ q, q < pN (gh (layGv T k g N).1 m) → N ≤ gp (layGv T k g N).1 m q) ∧ N ≤ (layGv T k g N).2.2.1 ∧ (∀ y, y ∈ (layGv T k g N).2.2.2 → N ≤ y) := by
  obtain ⟨-, -, t1, t2, t3⟩ := hT.2.2.2.2.2 k k0 k1
  have hr0 := t3 0 t1
  have hl := lok_all hz h0 (vok_n g N) hr0.1 hr0.2.1
  have hrt := lay_root hl hr0.1
  obtain ⟨l1, l2, l3, l4, l5, l6, l6b, -, -, -, -, -, l13, l14⟩ := hl
  have hvs2 : ∀ v, ¬ (layR (tR T k 0) g N (fun _ => -1)).2.2.1 v = -1 → N ≤ (layR (tR T k 0) g N (fun _ => -1)).2.2.1 v := fun v h => l6b v h rfl
  obtain ⟨p1, p2⟩ := l14 (fun m => N ≤ m) hvs2 (fun m hm => hm)
  obtain ⟨a1, a2, a3, a4, a5, a6, a7, a8⟩ := lns_ok (T := T) (k := k) (tN T k).toNat 1 _ _ _ l4 (by omega) l5 (fun i' h1 h2 => t3 i' (by omega))
  obtain ⟨c1, c2, c3⟩ := lns_fresh (T := T) (k := k) (N0 := N) (tN T k).toNat 1 _ _ _ l1 l4 (by omega) l5 hvs2 (fun i' h1 h2 => t3 i' (by omega))
  refine ⟨fun m m0 m1 q hq => ?_, p2 _ hrt.2.2.2, c2⟩
  rcases Int.lt_or_le m (layR (tR T k 0) g N (fun _ => -1)).2.1 with w | w
  · have b := a3 m (by omega) w
    have hq' : q < pN (gh (layR (tR T k 0) g N (fun _ => -1)).1 m) := by rw [← b.1]; exact hq
    have := p1 m m0 w q hq'
    rw [← b.2 q] at this
    exact this
  · exact c1 m w m1 q hq
/-- a candidate's RESULT becomes one with the goal -/
theorem lgv_uni {k : Int} (hT : tok T) (k0 : 0 ≤ k) (k1 : k < tG T) (hz : zok g N) (h0 : 0 ≤ N) (hE : eok N E) (x0 : 0 ≤ x) (x1 : x < N) (hs : ∃ ρ, solE g N E ρ ∧ ∃ θ : Int → List Int, (∀ v, Typ (θ v)) ∧ sbt θ (tR T k 0) = ρ x) : ∃ ρ, solE (layGv T k g N).1 (layGv T k g N).2.1 E ρ ∧ ρ (layGv T k g N).2.2.1 = ρ x := by
  obtain ⟨-, -, t1, t2, t3⟩ := hT.2.2.2.2.2 k k0 k1
  have hr0 := t3 0 t1
  have hl := lok_all hz h0 (vok_n g N) hr0.1 hr0.2.1
  have hrt := lay_root hl hr0.1
  obtain ⟨ρ, ⟨q1, q2⟩, q3⟩ := (lay_uni hl hr0.1 hz hE x0 x1).mpr hs
  obtain ⟨l1, l2, l3, l4, l5, l6, l6b, -, -, -, -, -, l13, l14⟩ := hl
  obtain ⟨c1, c2, c3⟩ := lns_fresh (T := T) (k := k) (N0 := 0) (tN T k).toNat 1 _ _ _ (by omega) l4 (by omega) l5 (fun v h => (((l5 v).resolve_left h).1)) (fun i' h1 h2 => t3 i' (by omega))
  obtain ⟨ρ2, r1, r2⟩ := c3 ρ q1
  refine ⟨ρ2, ⟨r1, fun p hp => ?_⟩, ?_⟩
  · have := hE p hp
    rw [r2 _ (by omega), r2 _ (by omega)]
    exact q2 p hp
  · show ρ2 ((layR (tR T k 0) g N (fun _ => -1)).2.2.2.headD 0) = _
    rw [r2 _ hrt.2.1, r2 _ (by omega)]
    exact q3
end ZSt
/-- what an asking may touch -/
def askFp (F : Nat) (o : Int) : Prop := F / 1000 = 9 ∨ F = 7002 ∨ F = 7004 ∨ F = 7005 ∨ F = 7010 ∨ F = 7011 ∨ F = 7012 ∨ F = 7013 ∨ F = 7017 ∨ (F / 1000 = 6 ∧ (o = 0 ∨ o = 1)) ∨ ((F = 3001 ∨ F = 3002) ∧ o = 0) ∨ (F = 5000 ∨ F = 5001 ∨ F = 5002 ∨ F = 5004 ∨ F = 5005) ∨ ((F = 0 ∨ F = 1) ∧ (242 ≤ o ∧ o ≤ 244)) ∨ (F / 1000 = 0 ∧ 251 ≤ o)
def aq (σ σ' : jS) : Prop := (∀ F o, F < 900000 → ¬ askFp F o → rs σ' F o = rs σ F o ∧ (∀ i, ra σ' F o i = ra σ F o i) ∧ rl σ' F o = rl σ F o) ∧ (∀ c, ¬ c = 0 → rk σ' c = rk σ c) ∧ rk σ 0 ≤ rk σ' 0 ∧
  (rz σ' + 2 * lens σ + 102 * rk σ 0 ≤ rz σ + 2 * lens σ' + 102 * rk σ' 0 ∧ rc σ' + lens σ + 2 * rk σ 0 ≤ rc σ + lens σ' + 2 * rk σ' 0 ∧ lens σ ≤ lens σ') ∧ (jnG σ → jnG σ') ∧ ∀ F o, F < 900000 → ¬ (F, o) ∈ lenT → (F = 0 → o < 251) → rl σ' F o = rl σ F o
theorem aq.rf (σ : jS) : aq σ σ := ⟨fun _ _ _ _ => ⟨rfl, fun _ => rfl, rfl⟩, fun _ _ => rfl, Int.le_refl _, ⟨Int.le_refl _, Int.le_refl _, Int.le_refl _⟩, fun h => h, fun _ _ _ _ _ => rfl⟩
theorem aq.tr {σ σ1 σ2 : jS} (h : aq σ σ1) (h' : aq σ1 σ2) : aq σ σ2 := by
  obtain ⟨a1, a2, a3, ⟨a4, a5, a6⟩, a7, a8⟩ := h
  obtain ⟨b1, b2, b3, ⟨b4, b5, b6⟩, b7, b8⟩ := h'
  exact ⟨fun F o q q2 => ⟨(b1 F o q q2).1.trans (a1 F o q q2).1, fun i => ((b1 F o q q2).2.1 i).trans ((a1 F o q q2).2.1 i), (b1 F o q q2).2.2.trans (a1 F o q q2).2.2⟩, fun c hc => (b2 c hc).trans (a2 c hc), by omega, ⟨by omega, by omega, by omega⟩, fun q => b7 (a7 q), fun F o q q2 q3 => (b8 F o q q2 q3).trans (a8 F o q q2 q3)⟩
theorem cq.aq {σ σ1 : jS} {l : List (Nat × Int)} (h : cq l σ σ1) (hl : ∀ p, p ∈ l → askFp p.1 p.2) : aq σ σ1 := by
  obtain ⟨h1, h2, ⟨h3, h4, h5⟩, h6, h7⟩ := h
  exact ⟨fun F o q q2 => h1 F o q (fun m => q2 (hl _ m)), fun c _ => h2 c, by rw [h2]; exact Int.le_refl _, ⟨by rw [h2]; omega, by rw [h2]; omega, h5⟩, h7, fun F o q q2 _ => h6 F o q q2⟩
/-- rows of a tree that is kept -/
def forN (σ : jS) (nb fb r : Int) (z : zN) (u : Int × Int) : Prop := (0 ≤ ra σ 6001 nb (r * 8 + 6) ∧ ra σ 6001 nb (r * 8 + 6) ≤ rs σ 3002 fb) ∧ ra σ 6001 nb (r * 8 + 0) = z.1 ∧ ra σ 6001 nb (r * 8 + 1) = u.1 ∧ ra σ 6001 nb (r * 8 + 2) = u.2 ∧ ra σ 6001 nb (r * 8 + 3) = z.2.1 ∧ ra σ 6001 nb (r * 8 + 4) = z.2.2.1 ∧ ra σ 6001 nb (r * 8 + 5) = z.2.2.2.1 ∧ (ra σ 6001 nb (r * 8 + 7) = if (z.2.2.2.2.2.2.2.getD []).length ≤ 100 then (((z.2.2.2.2.2.2.2.getD []).length : Nat) : Int) else 101) ∧ ((z.2.2.2.2.2.2.2.getD []).length ≤ 100 → 0 ≤ ra σ 6001 nb (r * 8 + 6) ∧ ra σ 6001 nb (r * 8 + 6) + ((z.2.2.2.2.2.2.2.getD []).length : Nat) ≤ rs σ 3002 fb ∧ ∀ j : Nat, j < (z.2.2.2.2.2.2.2.getD []).length → ra σ 3001 fb (ra σ 6001 nb (r * 8 + 6) + j) = cc ((z.2.2.2.2.2.2.2.getD []).getD j 0))
def treeW (σ : jS) (nb fb base : Int) : Int → List (Int × Int) → List zN → Prop
  | _, _, [] => True
  | p, st, z :: t => forN σ nb fb (base + p) z (st.headD (-1, -1)) ∧ treeW σ nb fb base (p + 1) ((List.range z.2.2.2.2.2.1.toNat).map (fun k : Nat => (p, (k : Int))) ++ st.tail) t
def memL (M : zM) (j : Nat) : Int := (((M.take j).map (fun e => e.2.2.length)).sum : Nat)
def arZ (z : zN) : Nat := z.2.2.2.2.2.1.toNat
/-- how many of the first are there -/
def cnP (f : Int → Int) : Nat → Int
  | 0 => 0
  | m + 1 => cnP f m + if 0 ≤ f ((m : Nat) : Int) then 1 else 0
/-- a tree that is kept is whole -/
def memO (t : List zN) : Prop := t = [] ∨ rdA (t.map arZ) 1 = some []
/-- the Flats that were made: none serves two -/
def rkK (σ : jS) : Prop := rk σ 0 ≤ 251 + cnP (ra σ 5005 0) 40 + cnP (ra σ 2000 0) 128 ∧ (∀ i j : Int, 0 ≤ i → i < 40 → 0 ≤ j → j < 128 → 0 ≤ ra σ 5005 0 i → 0 ≤ ra σ 2000 0 j → ¬ ra σ 5005 0 i = ra σ 2000 0 j) ∧ (∀ i j : Int, 0 ≤ i → i < 128 → 0 ≤ j → j < 128 → 0 ≤ ra σ 2000 0 i → ra σ 2000 0 i = ra σ 2000 0 j → i = j) ∧ ∀ j : Int, 0 ≤ j → j < 128 → 0 ≤ ra σ 2000 0 j → 251 ≤ ra σ 2000 0 j ∧ ra σ 2000 0 j < rk σ 0 ∧ rl σ 0 (ra σ 2000 0 j) = 100
theorem rkK_cg {σ σ1 : jS} (h : rkK σ) (hk : rk σ1 0 = rk σ 0) (h5 : ra σ1 5005 0 = ra σ 5005 0) (h2 : ra σ1 2000 0 = ra σ 2000 0) (hl : ∀ o : Int, 251 ≤ o → rl σ1 0 o = rl σ 0 o) : rkK σ1 := by
  obtain ⟨c1, c2, c3, c4⟩ := h
  unfold rkK
  rw [hk, h5, h2]
  refine ⟨c1, c2, c3, fun j j0 j1 j2 => ?_⟩
  obtain ⟨d1, d2, d3⟩ := c4 j j0 j1 j2
  exact ⟨d1, d2, by rw [hl _ d1]; exact d3⟩
/-- the remembered goals, as the class keeps them -/
def memR (σ : jS) (M : zM) : Prop := rs σ 5000 0 = (M.length : Nat) ∧ M.length ≤ 40 ∧ (∀ j, (h : j < M.length) → ra σ 5004 0 j = (M[j]).1 ∧ ra σ 5001 0 j = ((M[j]).2.2.length : Nat) ∧ ra σ 5002 0 j = memL M j ∧ 251 ≤ ra σ 5005 0 j ∧ ra σ 5005 0 j < rk σ 0 ∧ fT σ (ra σ 5005 0 j) (M[j]).2.1 ∧ (M[j]).2.1.length ≤ 100 ∧ (∀ t, t ∈ (M[j]).2.1 → t < 104) ∧ (M[j]).2.2.length ≤ 200 ∧ treeW σ 0 0 (memL M j) 0 [(-1, -1)] (M[j]).2.2 ∧ memO (M[j]).2.2) ∧
  (∀ i j : Int, 0 ≤ i → i < 40 → 0 ≤ j → j < 40 → 0 ≤ ra σ 5005 0 i → ra σ 5005 0 i = ra σ 5005 0 j → i = j) ∧ (∀ j : Int, 0 ≤ j → j < 40 → 0 ≤ ra σ 5005 0 j → 251 ≤ ra σ 5005 0 j ∧ ra σ 5005 0 j < rk σ 0 ∧ rl σ 0 (ra σ 5005 0 j) = 100) ∧
  rs σ 6000 0 = memL M M.length ∧ rs σ 6000 0 * 8 ≤ rl σ 6001 0 ∧ gr3 (rl σ 6001 0) ∧ 0 ≤ rs σ 3002 0 ∧ rs σ 3002 0 ≤ 100 * rs σ 6000 0 ∧ rs σ 3002 0 ≤ rl σ 3001 0 ∧ 1 ≤ rl σ 3001 0 ∧ rkK σ
def tly (σ : jS) (s : zS) : Prop := ra σ 7002 0 1 = sA s ∧ ra σ 7002 0 2 = sMt s ∧ ra σ 7002 0 3 = sC s ∧ ra σ 7002 0 4 = sTr s ∧ ra σ 7002 0 7 = sD s
/-- all but the nodes -/
def cB (σ : jS) (P : zP) (s : zS) (path : List (Int × Int)) : Prop :=
  cln σ ∧ cC σ ∧ cTx σ P.1 ∧ (rs σ 7015 0 = P.2.1 ∧ rs σ 7016 0 = P.2.2.1 ∧ rs σ 7014 0 = P.2.2.2.1 ∧ rs σ 7018 0 = if P.2.2.2.2 = true then 1 else 0) ∧ tly σ s ∧ (∀ d, (h : d < path.length) → ra σ 7010 0 d = (path[d]).1 ∧ ra σ 7011 0 d = (path[d]).2) ∧ memR σ (sM s) ∧ (0 ≤ rs σ 6000 1 ∧ rs σ 6000 1 ≤ sA s ∧ rs σ 6000 1 * 8 ≤ rl σ 6001 1 ∧ gr3 (rl σ 6001 1)) ∧ (0 ≤ rs σ 9002 0 ∧ rs σ 9002 0 ≤ rl σ 9007 0 ∧ gr2 (rl σ 9007 0)) ∧ jnG σ
def cH (σ : jS) (s : zS) (β : List (Int × Int)) : Prop := cT σ (hG s) (hN s) β ∧ rep (hG s) (hN s) β (hE s) ∧ gok s
/-- the tallies are not too large -/
def nOk (s : zS) : Prop := 0 ≤ sA s ∧ sA s ≤ 200 ∧ 0 ≤ sMt s ∧ sMt s ≤ sA s ∧ 0 ≤ sC s ∧ 0 ≤ sTr s ∧ pot s ≤ 200 ∧ 0 ≤ sD s ∧ sD s ≤ 20
/-- what an asking leaves -/
def aPost (P : zP) (σ σ' : jS) (s : zS) (path β : List (Int × Int)) (x : Int) (st : List (Int × Int)) (R : zS × zQ) : Prop :=
  aq σ σ' ∧ cB σ' P R.1 path ∧ rs σ' 7017 0 = R.2.1 ∧ (R.2.1 = 0 → rs σ' 9002 0 = rs σ 9002 0 ∧ ∀ i, 0 ≤ i → i < rs σ 9002 0 → ra σ' 9007 0 i = ra σ 9007 0 i) ∧ (∀ z : Int, z < 4 * ((path.length : Nat) : Int) → ra σ' 7012 0 z = ra σ 7012 0 z) ∧ (rs σ 6000 1 ≤ rs σ' 6000 1 ∧ ∀ i, 0 ≤ i → i < rs σ 6000 1 * 8 → ra σ' 6001 1 i = ra σ 6001 1 i) ∧
  (∃ new g' N', cT σ' g' N' (new ++ β) ∧ agr (hG s) g' (hN s) ∧ hN s ≤ N' ∧ ∀ t, R.2.2.1 = some t → g' = hG R.1 ∧ N' = hN R.1 ∧ rep g' N' (new ++ β) (hE R.1) ∧ (∀ K : Int → Prop, (∀ m, hN s ≤ m → K m) → eclo (hG s) (hN s) β K → K x → (∀ p, p ∈ new → K p.1 ∧ K p.2) ∧ eclo (hG R.1) (hN R.1) (new ++ β) K) ∧ planS σ' (rs σ 6000 1) st t ∧ rs σ' 6000 1 = rs σ 6000 1 + (t.length : Nat) ∧ rdA (t.map arI) st.length = some [] ∧ ∀ m : Nat, .inr m ∈ t → m < (sM R.1).length) ∧
  (R.2.1 = 2 → rs σ' 7004 0 = R.2.2.2.1 ∧ rs σ' 7005 0 = R.2.2.2.2.1 ∧ fT σ' 242 R.2.2.2.2.2)
/-- askGoal does what it is told to do, at a depth -/
def askC (P : zP) (n : Nat) (ask : zS → Int → zS × zQ) (path : List (Int × Int)) : Prop := ∀ (s : zS) (y a b : Int) (β : List (Int × Int)) (σ : jS) (Q : Int → jS → Prop), cB σ P s path → cH σ s β → nOk s → rs σ 7017 0 = 0 → 0 ≤ y → y < hN s → hN s ≤ 12 + 120 * sA s → (zu (hG s) (hN s) : Int) ≤ 12 + 52 * sA s → rs σ 9002 0 ≤ 2 * (100 * (path.length : Nat) + zu (hG s) (hN s)) → (∀ p, p ∈ path → 0 ≤ p.2 ∧ p.2 < hN s) → (∀ v σ', aPost P σ σ' s path β y [(a, b)] (ask s y) → (v = match (ask s y).2.2.1 with
  | none => 0
  | some t => ((expT (sM (ask s y).1) t).length : Int)) → (∀ t, (ask s y).2.2.1 = some t → 0 < (expT (sM (ask s y).1) t).length ∧ (expT (sM (ask s y).1) t).length ≤ 200) → Q v σ') → TrI n i_Search_askGoal [jo 7 0, ji y, ji (path.length : Nat), ji a, ji b] σ Q
def cBF : List (Nat × Int) := [(7015, 0), (7016, 0), (7014, 0), (7018, 0), (7002, 0), (7010, 0), (7011, 0), (5000, 0), (5001, 0), (5002, 0), (5004, 0), (5005, 0), (6000, 0), (6001, 0), (3001, 0), (3002, 0), (2000, 0), (6000, 1), (6001, 1), (9002, 0), (9007, 0)]
section ZSt2
variable {n : Nat} {σ σ1 σ2 : jS} {P : zP} {s : zS} {path : List (Int × Int)} {M : zM}
theorem treeW_cong {nb fb base : Int} (h : ra σ1 6001 nb = ra σ 6001 nb) (h2 : ra σ1 3001 fb = ra σ 3001 fb) (h3 : rs σ1 3002 fb = rs σ 3002 fb) : ∀ {t : List zN} {p : Int} {st : List (Int × Int)}, treeW σ nb fb base p st t → treeW σ1 nb fb base p st t := by
  intro t
  induction t with
  | nil => intro _ _ _; trivial
  | cons z t ih =>
    intro p st ⟨h4, h5⟩
    refine ⟨?_, ih h5⟩
    unfold forN at h4 ⊢
    rw [h, h2, h3]
    exact h4
theorem memR.cq {l : List (Nat × Int)} (h : memR σ M) (e : cq l σ σ1) (hl : (([(5000, 0), (5001, 0), (5002, 0), (5004, 0), (5005, 0), (6000, 0), (6001, 0), (3001, 0), (3002, 0), (2000, 0)] : List (Nat × Int)).all (fun p => !l.contains p)) = true) (hf : (l.all (fun p => decide (2 ≤ p.1))) = true) : memR σ1 M := by
  have hm : ∀ p, p ∈ ([(5000, 0), (5001, 0), (5002, 0), (5004, 0), (5005, 0), (6000, 0), (6001, 0), (3001, 0), (3002, 0), (2000, 0)] : List (Nat × Int)) → l.contains p = false := fun p hp => by
    have := List.all_eq_true.mp hl p hp
    simpa using this
  obtain ⟨h1, h2, h3, h4, h5, h6, h7, h8, h9, h10, h11⟩ := h
  have e0 : ∀ o, rl σ1 0 o = rl σ 0 o := fun o => e.nrl 0 o (by decide) (notin2 hf (by decide) o)
  have a61 := e.nraf 6001 0 (by decide) (hm _ (by decide))
  have a31 := e.nraf 3001 0 (by decide) (hm _ (by decide))
  have a32 := e.nrs 3002 0 (by decide) (hm _ (by decide))
  unfold memR
  rw [e.nrs 5000 0 (by decide) (hm _ (by decide)), e.nraf 5004 0 (by decide) (hm _ (by decide)), e.nraf 5001 0 (by decide) (hm _ (by decide)), e.nraf 5002 0 (by decide) (hm _ (by decide)), e.nraf 5005 0 (by decide) (hm _ (by decide)), e.2.1 0, e.nrs 6000 0 (by decide) (hm _ (by decide)), e.nrl 6001 0 (by decide) (hm _ (by decide)), a32, e.nrl 3001 0 (by decide) (hm _ (by decide))]
  refine ⟨h1, h2, fun j hj => ?_, h4, fun j j0 j1 j2 => ?_, h6, h7, h8, h9, h10, h11.1, h11.2.1, rkK_cg h11.2.2 (e.2.1 0) (e.nraf 5005 0 (by decide) (hm _ (by decide))) (e.nraf 2000 0 (by decide) (hm _ (by decide))) (fun o _ => e0 o)⟩
  · obtain ⟨c1, c2, c3, c4, c5, c6, c7, c8, c9, c10⟩ := h3 j hj
    exact ⟨c1, c2, c3, c4, c5, c6.cq e hf, c7, c8, c9, treeW_cong a61 a31 a32 c10.1, c10.2⟩
  · rw [e0]; exact h5 j j0 j1 j2
theorem cB.cq {l : List (Nat × Int)} (h : cB σ P s path) (e : cq l σ σ1) (hl : (cBF.all (fun p => !l.contains p)) = true) (hc : (ccT.all (fun p => !l.contains p.1)) = true) (hx : (cTxF.all (fun p => !l.contains p)) = true) (hf : (l.all (fun p => decide (2 ≤ p.1))) = true) : cB σ1 P s path := by
  have hm : ∀ p, p ∈ cBF → l.contains p = false := fun p hp => by
    have := List.all_eq_true.mp hl p hp
    simpa using this
  obtain ⟨h1, h2, h3, h4, h5, h6, h7, h8, h9, h10⟩ := h
  unfold cB tly
  rw [e.nrs 7015 0 (by decide) (hm _ (by decide)), e.nrs 7016 0 (by decide) (hm _ (by decide)), e.nrs 7014 0 (by decide) (hm _ (by decide)), e.nrs 7018 0 (by decide) (hm _ (by decide)), e.nraf 7002 0 (by decide) (hm _ (by decide)), e.nraf 7010 0 (by decide) (hm _ (by decide)), e.nraf 7011 0 (by decide) (hm _ (by decide)), e.nrs 6000 1 (by decide) (hm _ (by decide)), e.nrl 6001 1 (by decide) (hm _ (by decide)), e.nrs 9002 0 (by decide) (hm _ (by decide)), e.nrl 9007 0 (by decide) (hm _ (by decide))]
  refine ⟨h1.cq e, h2.cq e hc, h3.cq e hx (nofl hf), h4, h5, h6, h7.cq e (List.all_eq_true.mpr (fun p hp => ?_)) hf, h8, h9, e.2.2.2.2 h10⟩
  have : p ∈ cBF := by
    have : ∀ p, p ∈ ([(5000, 0), (5001, 0), (5002, 0), (5004, 0), (5005, 0), (6000, 0), (6001, 0), (3001, 0), (3002, 0), (2000, 0)] : List (Nat × Int)) → p ∈ cBF := by decide
    exact this p hp
  rw [hm p this]; rfl
theorem cB_pre {p : Int × Int} (h : cB σ P s (path ++ [p])) : cB σ P s path := by
  obtain ⟨h1, h2, h3, h4, h5, h6, h7, h8, h9, h10⟩ := h
  refine ⟨h1, h2, h3, h4, h5, fun d hd => ?_, h7, h8, h9, h10⟩
  have := h6 d (by simp; omega)
  rw [List.getElem_append_left hd] at this
  exact this
end ZSt2
