/-! How many values: the reference, level by level. -/
/-- a level is done -/
def vUp (n : Nat) (Q : Int → jS → Prop) (may d l : Int) (σ : jS) : Prop := i32 (l + (-1)) ∧ (if 0 ≤ l + (-1) then 0 ≤ rl σ 1143 0 ∧ i32 ((l + (-1)) + 1) ∧ 0 ≤ (l + (-1)) + 1 ∧ (l + (-1)) + 1 < rl σ 1143 0 ∧ TrI (n - 1) i_Model_upWith [jo 1 0, ji (l + (-1)), jl (ra σ 1143 0 ((l + (-1)) + 1))] σ (fun zr42 zs41 => J n c_Model_valuesOf (some .int) 9 [some (jo 1 0), none, some (ji may), some (ji d), some (ji zr42), none] [] zs41 (qI Q)) else J n c_Model_valuesOf (some .int) 9 [some (jo 1 0), none, some (ji may), some (ji d), some (ji (l + (-1))), none] [] σ (qI Q))
def vLvC (T : zT) (n : Nat) (Q : Int → jS → Prop) (may : Int) (d e l : Nat) : Prop := ∀ (σ : jS) (g : zH) (N : Int) (β : List (Int × Int)) (x : Int) (L r : List Int) (p : Int), mTx σ T → mT σ g N β → rs σ 1034 0 = p → vOK g N β x L r → L.length + 24 * e ≤ 156 → N + 60 * ((e : Nat) : Int) + 60 ≤ 40000 → 0 ≤ p → p + 60 * ((e : Nat) : Int) + 60 ≤ 40000 → zu g N + 26 * e + 26 ≤ 20000 → ra σ 1135 0 ((l : Nat) : Int) = x → ra σ 1136 0 ((l : Nat) : Int) = -1 → ra σ 1143 0 ((l : Nat) : Int) = 0 → (∀ σ', vq9 l N σ σ' → mT σ' g N β → rs σ' 1034 0 = p → ra σ' 1143 0 ((l : Nat) : Int) = vl T may e r → vUp n Q may ((d : Nat) : Int) ((l : Nat) : Int) σ') → J n c_Model_valuesOf (some .int) 9 [some (jo 1 0), none, some (ji may), some (ji (d : Nat)), some (ji (l : Nat)), none] [] σ (qI Q)
/-- the next given one may be looked for -/
def vRd (σ : jS) (l : Nat) (g : zH) (N : Int) (β : List (Int × Int)) (p : Int) (k : Nat) : Prop := (k = 0 ∧ ra σ 1136 0 ((l : Nat) : Int) = -1 ∧ mT σ g N β ∧ rs σ 1034 0 = p) ∨ ∃ (k1 : Nat) (g' : zH) (N' : Int) (new : List (Int × Int)), k = k1 + 1 ∧ ra σ 1136 0 ((l : Nat) : Int) = ((k1 : Nat) : Int) ∧ mT σ g' N' (new ++ β) ∧ agr g g' N ∧ N ≤ N' ∧ vMk σ l g N β p
section ZVj
variable {n l d : Nat} {σ σ1 σ2 : jS} {g g' : zH} {N N' may x p s0 : Int} {β new β' : List (Int × Int)} {T : zT} {r L : List Int} {f : Option (List Int → Int)}
theorem t_least {Q : Int → jS → Prop} {v w : Int} (h : w = min v 1000000) (hq : Q w σ) : TrL n i_Model_least [jl v] σ Q := by
  refine wp_Model_least ?_
  unfold lcm3
  by_cases q : v < 1000000
  · rw [if_pos q, if_neg (by decide)]
    rw [show v = w by omega]
    exact hq
  · by_cases q2 : v = 1000000
    · rw [if_neg q, if_pos q2, if_pos (by decide)]
      rw [show (1000000 : Int) = w by omega]
      exact hq
    · rw [if_neg q, if_neg q2, if_pos (by decide)]
      rw [show (1000000 : Int) = w by omega]
      exact hq
theorem t_next {Q : Int → jS → Prop} {kk : Nat} (hn : 7 ≤ n) (hX : mTx σ T) (hv : vOK g N β x L r) (hL : L.length ≤ 180) (hl4 : l < 4) (hx : ra σ 1135 0 ((l : Nat) : Int) = x) (hN : N + 60 ≤ 40000) (p0 : 0 ≤ p) (hp1 : p + 60 ≤ 40000) (hzu : zu g N + 26 ≤ 20000) (hvar : vNo T may) (hf : ∀ f', f = some f' → ∀ r, 0 ≤ f' r) (hkG : kk ≤ (tG T).toNat) (hR : vRd σ l g N β p kk) (hs : vSm (vCt T may f r) kk = s0)
    (hq0 : ∀ σ', vq9 l N σ σ' → mT σ' g N β → rs σ' 1034 0 = p → vKp l σ σ' → vSm (vCt T may f r) (tG T).toNat = s0 → Q 0 σ')
    (hq1 : ∀ (σ' : jS) (k : Nat) (new : List (Int × Int)), kk ≤ k → ((k : Nat) : Int) < tG T → vq9 l N σ σ' → mT σ' (layGv T k g N).1 (layGv T k g N).2.1 (new ++ β) → vMk σ' l g N β p → rs σ' 1034 0 ≤ p + 60 → vKp l σ σ' → ra σ' 1136 0 ((l : Nat) : Int) = ((k : Nat) : Int) → (∀ q : Nat, q < (tN T k).toNat → ra σ' 1138 0 (4 * ((l : Nat) : Int) + ((q : Nat) : Int)) = (layGv T k g N).2.2.2.getD q 0) → tb may k = true ∧ becm (tR T k 0) r → (∀ θ : Int → List Int, (∀ v, Typ (θ v)) → sbt θ (tR T k 0) = r → ∀ q : Nat, q < (tN T k).toNat → ∃ L' : List Int, L'.length ≤ L.length + 24 ∧ vOK (layGv T k g N).1 (layGv T k g N).2.1 (new ++ β) ((layGv T k g N).2.2.2.getD q 0) L' (sbt θ (tR T k (q + 1))) ∧ (sbt θ (tR T k (q + 1))).length ≤ 12 * r.length) → vSm (vCt T may f r) k = s0 → Q 1 σ') :
    TrI n i_Model_nextGiven [jo 1 0, ji (l : Nat), ji may] σ Q := by
  have hv0 := hv
  obtain ⟨hz, hbk, ha, hN0, ⟨x0, x1⟩, hxr, hcl, -⟩ := hv0
  have hG := hX.1.2.2.2.1
  have go := t_nx25 (σ := σ) (kk := kk) (s0 := s0) (p := p) (Q := Q) (n := n) (f := f) (by omega) hX hv hL hl4 hx hN p0 hp1 hzu hvar hf hq0 hq1
  rcases hR with ⟨k0, h36, hm, hp⟩ | ⟨k1, g', N', new, hk, h36, hm, hag, hNN, hM⟩
  · have l36 := mln_at hm.1 1136 4 (by decide)
    refine wp_Model_nextGiven ⟨by omega, by omega, by omega, by omega, ?_⟩
    rw [h36, if_pos rfl]
    refine ⟨⟨by omega, by omega⟩, fun s6 e6 => ?_⟩
    have f6 : sq [(1136, 0)] σ s6 := by rw [e6]; exact (sq.rf _ σ).pwa 1136 0 _ _ (by decide)
    refine go (tG T).toNat 0 s6 (by omega) (by omega) (by rw [e6]; exact (vq9.rf l N σ).w (by decide) (Int.le_refl _)) (hm.sq f6 (by decide)) (by rw [f6.nrs 1034 0 (by decide)]; exact hp) (.of f6 (by decide)) ?_ (by rw [← k0]; exact hs)
    rw [e6, wav9]
    rfl
  · have l36 := mln_at hm.1 1136 4 (by decide)
    refine wp_Model_nextGiven ⟨by omega, by omega, by omega, by omega, ?_⟩
    rw [h36, if_neg (by omega)]
    refine ⟨by omega, t_vback (by omega) hm hM hl4 hag hNN hN0 hz hbk (by omega) p0 (by omega) (fun σ5 y1 y2 y3 => ?_)⟩
    have l36b := mln_at y1.1 1136 4 (by decide)
    have a36 : ra σ5 1136 0 ((l : Nat) : Int) = ((k1 : Nat) : Int) := by rw [y2.nra 1136 0 _ (by decide)]; exact h36
    refine ⟨by omega, by omega, by rw [a36]; exact ⟨by omega, by omega⟩, fun s6 e6 => ?_⟩
    have f6 : sq [(1136, 0)] σ5 s6 := by rw [e6]; exact (sq.rf _ σ5).pwa 1136 0 _ _ (by decide)
    have v5 : vq9 l N σ σ5 := .of y2 (by decide) (by decide) (kpp.of y2 (by decide))
    refine go ((tG T).toNat - kk) kk s6 (by omega) (by omega) (by rw [e6]; exact v5.w (by decide) (Int.le_refl _)) (y1.sq f6 (by decide)) (by rw [f6.nrs 1034 0 (by decide)]; exact y3) ((vKp.of y2 (by decide)).tr (.of f6 (by decide))) ?_ hs
    rw [e6, wav9, a36]
    omega
theorem t_openValue {Q : jS → Prop} {y : Int} (hm : mln σ) (hl4 : l < 4) (hq : ∀ σ', vq9 l N σ σ' → sq [(1135, 0), (1136, 0), (1143, 0)] σ σ' → ra σ' 1135 0 ((l : Nat) : Int) = y → ra σ' 1136 0 ((l : Nat) : Int) = -1 → ra σ' 1143 0 ((l : Nat) : Int) = 0 → Q σ') : TrV n i_Model_openValue [jo 1 0, ji (l : Nat), ji y] σ Q := by
  have l35 := mln_at hm 1135 4 (by decide)
  have l36 := mln_at hm 1136 4 (by decide)
  have l43 := mln_at hm 1143 4 (by decide)
  refine wp_Model_openValue ⟨by omega, by omega, by omega, by omega, fun s3 e3 => ?_⟩
  have f3 : sq [(1135, 0), (1136, 0), (1143, 0)] σ s3 := by rw [e3]; exact (sq.rf _ σ).pwa 1135 0 _ _ (by decide)
  have v3 : vq9 l N σ s3 := by rw [e3]; exact (vq9.rf l N σ).w (by decide) (Int.le_refl _)
  rw [f3.nrl 1136 0, l36]
  refine ⟨by omega, by omega, fun s7 e7 => ?_⟩
  have f7 : sq [(1135, 0), (1136, 0), (1143, 0)] σ s7 := by rw [e7]; exact f3.pwa 1136 0 _ _ (by decide)
  have v7 : vq9 l N σ s7 := by rw [e7]; exact v3.w (by decide) (Int.le_refl _)
  rw [f7.nrl 1143 0, l43]
  refine ⟨by omega, by omega, fun s10 e10 => hq s10 (by rw [e10]; exact v7.w (by decide) (Int.le_refl _)) (by rw [e10]; exact f7.pwa 1143 0 _ _ (by decide)) ?_ ?_ (by rw [e10, wav9])⟩
  · rw [e10, wan9 (Or.inl (by decide)), e7, wan9 (Or.inl (by decide)), e3, wav9]
  · rw [e10, wan9 (Or.inl (by decide)), e7, wav9]
end ZVj
