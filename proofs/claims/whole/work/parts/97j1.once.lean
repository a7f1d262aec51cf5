/-! The search told without nodes: by what the goals may come to. -/
abbrev zD : Type := List (List Int) → Prop
/-- what some nodes may come to together -/
def slS (s : zS) (xs : List Int) : zD := fun τ => ∃ ρ, solE (hG s) (hN s) (hE s) ρ ∧ τ = xs.map ρ
def lyD (T : zT) (k : Int) (i : Nat) (S : zD) : zD := fun τ' => ∃ τ, S τ ∧ ∃ θ : Int → List Int, (∀ v, Typ (θ v)) ∧ sbt θ (tR T k 0) = τ.getD i [] ∧ τ' = τ ++ (List.range' 1 (tN T k).toNat).map (fun q => sbt θ (tR T k q))
def cutD (L : Nat) (S : zD) : zD := fun τ => ∃ τ', S τ' ∧ τ = τ'.take L
section ZOn
variable {T : zT} {P : zP} {g g' : zH} {N N' : Int} {E : List (Int × Int)} {s s' B : zS} {x k : Int} {xs : List Int} {ρ : Int → List Int}
theorem lns_sol {k : Int} : ∀ (j i : Nat) (g : zH) (N : Int) (vs : Int → Int), zok g N → 0 ≤ N → vok g N vs → (∀ i', i ≤ i' → i' < i + j → rwk (tR T k i')) →
    (∀ v, ¬ vs v = -1 → (layNs T k j i g N vs).2.2.1 v = vs v) ∧
    (∀ ρ, str (layNs T k j i g N vs).1 (layNs T k j i g N vs).2.1 ρ → (layNs T k j i g N vs).2.2.2.map ρ = (List.range' i j).map (fun q => sbt (fun t => ρ ((layNs T k j i g N vs).2.2.1 (-1 - t))) (tR T k q))) ∧
    (∀ q t, i ≤ q → q < i + j → t ∈ tR T k q → t < 0 → ¬ (layNs T k j i g N vs).2.2.1 (-1 - t) = -1) ∧
    (∀ (ρ0 θ : Int → List Int), str g N ρ0 → (∀ v, Typ (θ v)) → (∀ v, ¬ vs v = -1 → ρ0 (vs v) = θ v) → ∃ ρ, str (layNs T k j i g N vs).1 (layNs T k j i g N vs).2.1 ρ ∧ (∀ n, n < N → ρ n = ρ0 n) ∧ ∀ v, ¬ (layNs T k j i g N vs).2.2.1 v = -1 → ρ ((layNs T k j i g N vs).2.2.1 v) = θ v) := by
  intro j
  induction j with
  | zero =>
    intro i g N vs hz h0 hv _
    exact ⟨fun _ _ => rfl, fun _ _ => rfl, fun q t h1 h2 => absurd h2 (by omega), fun ρ0 θ h1 _ h3 => ⟨ρ0, h1, fun _ _ => rfl, h3⟩⟩
  | succ j ih =>
    intro i g N vs hz h0 hv hr
    have hri := hr i (Nat.le_refl _) (by omega)
    have hl := lok_all hz h0 hv hri.1 hri.2.1
    have hrt := lay_root hl hri.1
    obtain ⟨l1, l2, l3, l4, l5, l6, l7, l8, l9, l10, l11, l12, l13, -⟩ := hl
    obtain ⟨a1, a2, a3, a4, -, -, -, -⟩ := lns_ok (T := T) (k := k) j (i + 1) _ _ _ l4 (by omega) l5 (fun i' h1 h2 => hr i' (by omega) (by omega))
    obtain ⟨b1, b2, b3, b4⟩ := ih (i + 1) _ _ _ l4 (by omega) l5 (fun i' h1 h2 => hr i' (by omega) (by omega))
    refine ⟨fun v hv => ?_, fun ρ hρ => ?_, fun q t h1 h2 h3 h4 => ?_, fun ρ0 θ h1 h2 h3 => ?_⟩
    · have e := l6 v hv
      exact (b1 v (by rw [e]; exact hv)).trans e
    · have hb := b2 ρ hρ
      have hlow := str_low a3 a1 l4 hρ
      have hh := hrt.2.2.1 ρ hlow
      show ρ _ :: List.map ρ _ = _
      rw [List.range'_succ, List.map_cons]
      refine congr (congrArg _ ?_) hb
      rw [hh]
      refine sbt_ext (fun t ht t0 => ?_)
      exact congrArg ρ (b1 _ (l8 t ht t0)).symm
    · by_cases q1 : q = i
      · rw [q1] at h3
        have e := l8 t h3 h4
        have e2 := b1 _ e
        show ¬ (layNs T k j (i + 1) _ _ _).2.2.1 (-1 - t) = -1
        rw [e2]; exact e
      · exact b3 q t (by omega) (by omega) h3 h4
    · obtain ⟨ρ1, c1, c2, c3⟩ := l13 ρ0 θ h1 h2 h3
      obtain ⟨ρ2, d1, d2, d3⟩ := b4 ρ1 θ c1 h2 c3
      exact ⟨ρ2, d1, fun n hn => (d2 n (by omega)).trans (c2 n hn), d3⟩
theorem lgv_sol {k : Int} (hT : tok T) (k0 : 0 ≤ k) (k1 : k < tG T) (hz : zok g N) (h0 : 0 ≤ N) : ∃ vs : Int → Int, (∀ v, vs v = -1 ∨ (0 ≤ vs v ∧ vs v < (layGv T k g N).2.1)) ∧
    (∀ ρ, str (layGv T k g N).1 (layGv T k g N).2.1 ρ → ρ (layGv T k g N).2.2.1 = sbt (fun t => ρ (vs (-1 - t))) (tR T k 0) ∧ (layGv T k g N).2.2.2.map ρ = (List.range' 1 (tN T k).toNat).map (fun q => sbt (fun t => ρ (vs (-1 - t))) (tR T k q))) ∧
    (∀ (q : Nat) (t : Int), q ≤ (tN T k).toNat → t ∈ tR T k q → t < 0 → ¬ vs (-1 - t) = -1) ∧
    (∀ (ρ0 θ : Int → List Int), str g N ρ0 → (∀ v, Typ (θ v)) → ∃ ρ, str (layGv T k g N).1 (layGv T k g N).2.1 ρ ∧ (∀ n, n < N → ρ n = ρ0 n) ∧ ∀ v, ¬ vs v = -1 → ρ (vs v) = θ v) := by
  obtain ⟨-, -, t1, t2, t3⟩ := hT.2.2.2.2.2 k k0 k1
  have hr0 := t3 0 t1
  have hl := lok_all hz h0 (vok_n g N) hr0.1 hr0.2.1
  have hrt := lay_root hl hr0.1
  obtain ⟨l1, l2, l3, l4, l5, l6, l7, l8, l9, l10, l11, l12, l13, -⟩ := hl
  obtain ⟨a1, a2, a3, a4, a5, -, -, -⟩ := lns_ok (T := T) (k := k) (tN T k).toNat 1 _ _ _ l4 (by omega) l5 (fun i' h1 h2 => t3 i' (by omega))
  obtain ⟨b1, b2, b3, b4⟩ := lns_sol (T := T) (k := k) (tN T k).toNat 1 _ _ _ l4 (by omega) l5 (fun i' h1 h2 => t3 i' (by omega))
  refine ⟨_, fun v => ?_, fun ρ hρ => ⟨?_, b2 ρ hρ⟩, fun q t h1 h2 h3 => ?_, fun ρ0 θ h1 h2 => ?_⟩
  · rcases a5 v with w | w
    · exact Or.inl w
    · exact Or.inr ⟨w.1, w.2.1⟩
  · have hlow := str_low a3 a1 l4 hρ
    have hh := hrt.2.2.1 ρ hlow
    refine hh.trans (sbt_ext (fun t ht t0 => ?_))
    exact congrArg ρ (b1 _ (l8 t ht t0)).symm
  · by_cases q1 : q = 0
    · rw [q1] at h2
      have e := l8 t h2 h3
      rw [b1 _ e]; exact e
    · exact b3 q t (by omega) (by omega) h2 h3
  · obtain ⟨ρ1, c1, c2, c3⟩ := l13 ρ0 θ h1 h2 (fun v hv => absurd rfl hv)
    obtain ⟨ρ2, d1, d2, d3⟩ := b4 ρ1 θ c1 h2 c3
    exact ⟨ρ2, d1, fun n hn => (d2 n (by omega)).trans (c2 n hn), d3⟩
theorem map_low {f f' : Int → List Int} (hx : ∀ y, y ∈ xs → 0 ≤ y ∧ y < N) (h : ∀ n, n < N → f n = f' n) : xs.map f = xs.map f' := List.map_congr_left (fun y hy => h y (hx y hy).2)
theorem get_map {i : Nat} {f : Int → List Int} (hi : xs[i]? = some x) : (xs.map f).getD i [] = f x := by
  rw [List.getD_eq_getElem?_getD, List.getElem?_map, hi]
  rfl
theorem lay_S {i : Nat} (hT : tok P.1) (h : gok s) (k0 : 0 ≤ k) (k1 : k < tG P.1) (x0 : 0 ≤ x) (x1 : x < hN s) (hx : ∀ y, y ∈ xs → 0 ≤ y ∧ y < hN s) (hi : xs[i]? = some x) : slS (spLay P.1 k x s) (xs ++ (layGv P.1 k (hG s) (hN s)).2.2.2) = lyD P.1 k i (slS s xs) := by
  obtain ⟨l1, l2, l3, l4, l5, l6, l7, l8⟩ := lgv_ok (T := P.1) hT k0 k1 h.1 h.2.1
  obtain ⟨vs, v1, v2, v3, v4⟩ := lgv_sol (T := P.1) hT k0 k1 h.1 h.2.1
  funext τ
  refine propext ⟨fun w => ?_, fun w => ?_⟩
  · obtain ⟨ρ, hρ, e⟩ := w
    have hρ1 : str (layGv P.1 k (hG s) (hN s)).1 (layGv P.1 k (hG s) (hN s)).2.1 ρ := hρ.1
    have hlow : solE (hG s) (hN s) (hE s) ρ := solE_low (D := [((layGv P.1 k (hG s) (hN s)).2.2.1, x)]) l3 l1 h.1 hρ
    obtain ⟨e1, e2⟩ := v2 ρ hρ1
    have hq : ∀ q : Nat, q ≤ (tN P.1 k).toNat → sbt (fun t => if vs (-1 - t) = -1 then [0] else ρ (vs (-1 - t))) (tR P.1 k q) = sbt (fun t => ρ (vs (-1 - t))) (tR P.1 k q) := fun q hq => sbt_ext (fun t ht t0 => if_neg (v3 q t hq ht t0))
    refine ⟨xs.map ρ, ⟨ρ, hlow, rfl⟩, fun t => if vs (-1 - t) = -1 then [0] else ρ (vs (-1 - t)), fun t => ?_, ?_, ?_⟩
    · dsimp only
      rcases v1 (-1 - t) with w | w
      · rw [if_pos w]; exact Typ_0
      · rw [if_neg (by omega)]
        exact (hρ1 _ w.1 w.2).1
    · rw [hq 0 (Nat.zero_le _), ← e1, get_map hi]
      exact hρ.2 ((layGv P.1 k (hG s) (hN s)).2.2.1, x) List.mem_cons_self
    · rw [e, List.map_append, e2]
      refine congrArg _ (List.map_congr_left (fun q hq2 => ?_))
      have := List.mem_range'_1.mp hq2
      exact (hq q (by omega)).symm
  · obtain ⟨τ0, ⟨ρ0, hρ0, e0⟩, θ, hθ, e1, e2⟩ := w
    obtain ⟨ρ, c1, c2, c3⟩ := v4 ρ0 (fun v => θ (-1 - v)) hρ0.1 (fun v => hθ _)
    obtain ⟨d1, d2⟩ := v2 ρ c1
    have hq : ∀ q : Nat, q ≤ (tN P.1 k).toNat → sbt (fun t => ρ (vs (-1 - t))) (tR P.1 k q) = sbt θ (tR P.1 k q) := fun q hq => sbt_ext (fun t ht t0 => by
      rw [c3 _ (v3 q t hq ht t0)]
      exact congrArg θ (by omega))
    rw [hq 0 (Nat.zero_le _)] at d1
    refine ⟨ρ, ⟨c1, fun p hp => ?_⟩, ?_⟩
    · rcases List.mem_cons.mp hp with w | w
      · rw [w]
        show ρ (layGv P.1 k (hG s) (hN s)).2.2.1 = ρ x
        rw [d1, e1, e0, get_map hi, c2 x x1]
      · have := h.2.2.1 p w
        rw [c2 _ this.1.2, c2 _ this.2.2]
        exact hρ0.2 p w
    · rw [e2, e0, List.map_append, d2, map_low hx (fun n hn => (c2 n hn).symm)]
      refine congrArg _ (List.map_congr_left (fun q hq2 => ?_))
      have := List.mem_range'_1.mp hq2
      exact (hq q (by omega)).symm
theorem str_up (hz' : zok g' N') (ha : agr g g' N) (h0 : 0 ≤ N) (h : str g N ρ) : ∀ d : Nat, N + (d : Nat) ≤ N' → ∃ ρ', str g' (N + (d : Nat)) ρ' ∧ ∀ n, n < N → ρ' n = ρ n := by
  intro d
  induction d with
  | zero =>
    intro _
    refine ⟨ρ, ?_, fun _ _ => rfl⟩
    rw [show N + ((0 : Nat) : Int) = N by omega]
    exact (str_cong ha).mp h
  | succ d ih =>
    intro hd
    obtain ⟨ρ', h1, h2⟩ := ih (by omega)
    have zm := hz' (N + (d : Nat)) (by omega) (by omega)
    refine ⟨upR ρ' (N + (d : Nat)) (if gh g' (N + (d : Nat)) = -1 then [0] else gh g' (N + (d : Nat)) :: ((List.range (pN (gh g' (N + (d : Nat))))).map (fun k => ρ' (gp g' (N + (d : Nat)) k))).flatten), fun n n0 n1 => ?_, fun n hn => ?_⟩
    · have ev : ((List.range (pN (gh g' n))).map (fun k => upR ρ' (N + (d : Nat)) (if gh g' (N + (d : Nat)) = -1 then [0] else gh g' (N + (d : Nat)) :: ((List.range (pN (gh g' (N + (d : Nat))))).map (fun k => ρ' (gp g' (N + (d : Nat)) k))).flatten) (gp g' n k))).flatten = ((List.range (pN (gh g' n))).map (fun k => ρ' (gp g' n k))).flatten := flat_congr (fun k hk => by
        have := (hz' n n0 (by omega)).2 k hk
        rw [upR_eq, if_neg (by omega)])
      rw [ev, upR_eq]
      by_cases q : n = N + (d : Nat)
      · rw [if_pos q, q]
        by_cases q2 : gh g' (N + (d : Nat)) = -1
        · rw [if_pos q2]
          exact ⟨Typ_0, fun w => absurd q2 w⟩
        · rw [if_neg q2]
          refine ⟨Typ_con (fun r hr => ?_) (by rw [List.length_map, List.length_range]), fun _ => rfl⟩
          obtain ⟨k, hk, e⟩ := List.mem_map.mp hr
          have := zm.2 k (List.mem_range.mp hk)
          rw [← e]
          exact (h1 _ this.1 this.2).1
      · rw [if_neg q]
        exact h1 n n0 (by omega)
    · rw [upR_eq, if_neg (by omega)]
      exact h2 n hn
theorem slS_up {z z' : zM × (Int × Int × Int × Int × Int)} (hz : zok g N) (h0 : 0 ≤ N) (hz' : zok g' N') (ha : agr g g' N) (hN' : N ≤ N') (hE : eok N E) (hx : ∀ y, y ∈ xs → 0 ≤ y ∧ y < N) : slS ((g', N', E), z') xs = slS ((g, N, E), z) xs := by
  funext τ
  refine propext ⟨fun w => ?_, fun w => ?_⟩
  · obtain ⟨ρ, hρ, e⟩ := w
    exact ⟨ρ, ⟨str_low ha hN' hz hρ.1, hρ.2⟩, e⟩
  · obtain ⟨ρ, hρ, e⟩ := w
    obtain ⟨ρ', h1, h2⟩ := str_up hz' ha h0 hρ.1 (N' - N).toNat (by omega)
    rw [show N + ((N' - N).toNat : Int) = N' by omega] at h1
    refine ⟨ρ', ⟨h1, fun p hp => ?_⟩, ?_⟩
    · have := hE p hp
      rw [h2 _ this.1.2, h2 _ this.2.2]
      exact hρ.2 p hp
    · rw [e]
      exact map_low hx (fun n hn => (h2 n hn).symm)
/-- a closed goal ties nothing of what was -/
theorem slS_fr (h : gok s) (hr : repI s) (hr' : repI s') (x0 : 0 ≤ x) (x1 : x < hN s) (hc : clsd (rowE (hG s) (hN s) (hE s) x) = true) (st : stpI s s' (fun v => v = x)) (hx : ∀ y, y ∈ xs → 0 ≤ y ∧ y < hN s) : slS s' xs = slS s xs := by
  obtain ⟨hz', hNN, ha, hp, D, hD, hD2⟩ := st
  obtain ⟨β, hr⟩ := hr
  obtain ⟨β', hr'⟩ := hr'
  have hρ2 := (hr'.2.2 _).mp (ex_sol hz' hr'.1 hr'.2.1)
  generalize ex (hG s') (hN s') β' = ρ2 at hρ2
  funext τ
  refine propext ⟨fun w => ?_, fun w => ?_⟩
  · obtain ⟨ρ, hρ, e⟩ := w
    rw [hD] at hρ
    exact ⟨ρ, solE_low ha hNN h.1 hρ, e⟩
  · obtain ⟨ρ1, hρ1, e⟩ := w
    have hlow : solE (hG s) (hN s) (hE s) ρ2 := by rw [hD] at hρ2; exact solE_low ha hNN h.1 hρ2
    have hxx := solE_cl h.1 hr x0 x1 hc hρ1 hlow
    refine ⟨fun n => if n < hN s then ρ1 n else ρ2 n, ⟨fun n n0 n1 => ?_, fun p hp2 => ?_⟩, ?_⟩
    · dsimp only
      by_cases q : n < hN s
      · rw [if_pos q]
        obtain ⟨b1, b2⟩ := ha n n0 q
        refine ⟨(hρ1.1 n n0 q).1, fun hu => ?_⟩
        rw [b1] at hu ⊢
        rw [(hρ1.1 n n0 q).2 hu]
        refine congrArg _ (flat_congr (fun k hk => ?_))
        have := (h.1 n n0 q).2 k hk
        rw [b2 k, if_pos (by omega)]
      · rw [if_neg q]
        refine ⟨(hρ2.1 n n0 n1).1, fun hu => ?_⟩
        rw [(hρ2.1 n n0 n1).2 hu]
        refine congrArg _ (flat_congr (fun k hk => ?_))
        have := hp n (by omega) n1 k hk
        rw [if_neg (by omega)]
    · rw [hD] at hp2
      dsimp only
      rcases List.mem_append.mp hp2 with w | w
      · obtain ⟨d1, d2, d3⟩ := hD2 p w
        have hp3 := hρ2.2 p (by rw [hD]; exact List.mem_append_left _ w)
        rw [if_neg (by omega)]
        rcases d2 with d2 | d2
        · rw [if_pos (by omega), hp3, d2]; exact hxx.symm
        · rw [if_neg (by omega)]; exact hp3
      · have := h.2.2.1 p w
        rw [if_pos this.1.2, if_pos this.2.2]
        exact hρ1.2 p w
    · rw [e]
      exact map_low hx (fun n hn => (if_pos hn).symm)
theorem cut_S {ys : List Int} : cutD xs.length (slS s (xs ++ ys)) = slS s xs := by
  funext τ
  refine propext ⟨fun w => ?_, fun w => ?_⟩
  · obtain ⟨τ', ⟨ρ, hρ, e⟩, e2⟩ := w
    refine ⟨ρ, hρ, ?_⟩
    rw [e2, e, List.map_append, List.take_left' (by rw [List.length_map])]
  · obtain ⟨ρ, hρ, e⟩ := w
    refine ⟨(xs ++ ys).map ρ, ⟨ρ, hρ, rfl⟩, ?_⟩
    rw [e, List.map_append, List.take_left' (by rw [List.length_map])]
end ZOn
