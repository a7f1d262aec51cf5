/-! Goals and the answer, written. -/
section ZAv
variable {n : Nat} {σ0 σ σ1 : jS} {T : zT} {M : zM} {e a b k i w : Int} {s : zS} {W : List zN} {c r : List Int}
def wgF : List (Nat × Int) := [(0, 1), (1, 1), (11000, 0), (11001, 0), (11002, 0)]
theorem hd_at (W : List zN) : W.headD d0z = W.getD 0 d0z := by cases W <;> rfl
theorem c_writeGoal {Q : Int → jS → Prop} (hn : 6 ≤ n) (hc : cln σ) (hC : cC σ) (h : cTr σ W) (hl200 : W.length ≤ 200) (hg : ∀ z, z ∈ W → gdZ T z ∧ rwG (rwZ z))
    (hq0 : ¬ ((0 ≤ i ∧ i < ((W.length : Nat) : Int)) ∧ (rwZ (W.getD i.toNat d0z)).length ≤ 100) → ∀ σ', sq wgF σ σ' → rs σ' 11000 0 = rs σ 11000 0 → (∀ j, ra σ' 11001 0 j = ra σ 11001 0 j) → Q (-1) σ')
    (hq1 : (0 ≤ i ∧ i < ((W.length : Nat) : Int)) → (rwZ (W.getD i.toNat d0z)).length ≤ 100 → ∀ σ', sq wgF σ σ' → cW σ' (wrW (rwZ (W.getD i.toNat d0z)) []) → Q (((wrW (rwZ (W.getD i.toNat d0z)) []).length : Nat) : Int) σ') : TrI n i_Top_writeGoal [jo 12 0, ji i] σ Q := by
  have t14 := cC_at hC 12014 0 1 (by decide)
  have t30 := cC_at hC 3000 1 2 (by decide)
  have t123 := cC_at hC 12003 0 1 (by decide)
  have l1 := hC.2.1 (1, 100) (by decide)
  dsimp only at l1
  refine wp_Top_writeGoal ⟨by omega, by omega, by omega, by rw [t14, t30]; omega, ?_⟩
  rw [t14, t30]
  refine c_has h (fun q => ?_) (fun q => ?_)
  · rw [if_neg (by decide)]
    exact hq0 (fun w => q w.1) σ (sq.rf _ _) rfl (fun _ => rfl)
  · rw [if_pos (by decide), t14, t123]
    have hN := cTr_at h q.1 q.2
    have hw := hg _ (show W.getD i.toNat d0z ∈ W from gd_mem (by omega))
    obtain ⟨h1, h2, f1, f2, f3, f4, f5, f6, f7⟩ := h
    refine ⟨by omega, c_goalIntF (nb := 2) (r := rwZ (W.getD i.toNat d0z)) (by omega) (Or.inr ⟨rfl, rfl⟩) t30 q.1 (by omega) f2 f3 (by omega) f6 l1 rfl hN (fun s8 f8 v8 k8 => ?_)⟩
    have C8 : cC s8 := hC.fq (sq_r1 f8) (by decide)
    by_cases ql : (rwZ (W.getD i.toNat d0z)).length ≤ 100
    · refine c_writeFlat (by omega) (hc.sq f8) C8 (k8 ql) ql (hw.2.2 ql) (fun s10 f10 h10 => ?_)
      exact hq1 q ql s10 ((f8.mo (by decide)).tr (f10.mo (by decide))) h10
    · rw [if_neg ql] at v8
      refine wp_Top_writeFlat ⟨by omega, ?_⟩
      rw [cC_at C8 12003 0 1 (by decide), v8]
      refine ⟨by omega, ?_⟩
      rw [if_neg (by decide)]
      exact hq0 (fun w => ql w.2) s8 (f8.mo (by decide)) (f8.nrs 11000 0 (by decide)) (fun j => f8.nra 11001 0 j (by decide))
theorem t_writeGoal {Q : Int → jS → Prop} (hn : 4 ≤ n) (hm : mln σ) (hA : aPm σ e s W a b c r k) (hp : aPp T e W c r k)
    (hq0 : ¬ ((0 ≤ i ∧ i < ((W.length : Nat) : Int)) ∧ (rwZ (W.getD i.toNat d0z)).length ≤ 100) → Q (-1) σ)
    (hq1 : (0 ≤ i ∧ i < ((W.length : Nat) : Int)) → (rwZ (W.getD i.toNat d0z)).length ≤ 100 → ∀ σ', sq ((1134, 0) :: wmF) σ σ' → mW σ' (wrW (rwZ (W.getD i.toNat d0z)) []) → Q (((wrW (rwZ (W.getD i.toNat d0z)) []).length : Nat) : Int) σ') : TrI n i_Model_writeGoal [jo 1 0, ji i] σ Q := by
  refine wp_Model_writeGoal ⟨by omega, by omega, t_isNode (by omega) hm hA hp (fun q => ?_) (fun he q => ?_)⟩
  · rw [if_pos rfl]
    exact hq0 (fun w => q w.1)
  · rw [if_neg (by decide)]
    have hl := (hp.2.2.1 he).2.1
    have hw := hp.2.2.2.2.1 _ (show W.getD i.toNat d0z ∈ W from gd_mem (by omega))
    have hN := hA.2.2.1.2 i.toNat (by omega)
    unfold nodeR at hN
    rw [show ((i.toNat : Nat) : Int) = i by omega] at hN
    obtain ⟨n1, n2, n3, n4, n5, n6, n7, n8, n9, n10, -⟩ := hN
    have l23 := mln_at hm 1123 20000 (by decide)
    rw [mln_at hm 1122 200 (by decide), l23, n9]
    refine ⟨by omega, by omega, by omega, ?_⟩
    by_cases ql : (rwZ (W.getD i.toNat d0z)).length ≤ 100
    · rw [if_pos ql, if_neg (by omega)]
      refine ⟨by omega, ⟨by omega, by omega⟩, t_writeRow (by omega) hm rfl rfl (by decide) ⟨by omega, by omega, fun j hj => n10 ql j hj⟩ (by omega) ql (hw.2.2 ql) (fun σ' f' h' => hq1 q ql σ' f' h')⟩
    · rw [if_neg ql, if_pos (by decide)]
      exact hq0 (fun w => ql w.2)
/-- the answer's row, if there is one -/
def anP (e : Int) (W : List zN) (c : List Int) (v : List Int) : Prop := (e = 0 ∧ v = rwZ (W.headD d0z)) ∨ (e = 2 ∧ v = c)
theorem c_writeAnswer {Q : Int → jS → Prop} (hn : 7 ≤ n) (hc : cln σ) (hC : cC σ) (hA : aPc σ e s W a b c r k) (hp : aPp T e W c r k)
    (hq0 : (∀ v, anP e W c v → 100 < v.length) → ∀ σ', sq wgF σ σ' → rs σ' 11000 0 = rs σ 11000 0 → (∀ j, ra σ' 11001 0 j = ra σ 11001 0 j) → Q (-1) σ')
    (hq1 : ∀ v, anP e W c v → v.length ≤ 100 → ∀ σ', sq wgF σ σ' → cW σ' (wrW v []) → Q (((wrW v []).length : Nat) : Int) σ') : TrI n i_Top_writeAnswer [jo 12 0] σ Q := by
  have l11 := cln_at hc 12011 0 9 (by decide)
  have v0 : ra σ 12011 0 0 = e := hA.1 0 (by omega)
  have t123 := cC_at hC 12003 0 1 (by decide)
  have t1213 := cC_at hC 12013 0 246 (by decide)
  have l1 := hC.2.1 (1, 100) (by decide)
  have l246 := hC.2.1 (246, 100) (by decide)
  dsimp only at l1 l246
  have hW200 : W.length ≤ 200 := by
    rcases hp.2.1 with w | w
    · rw [w]; decide
    · exact w.2.1
  refine wp_Top_writeAnswer ⟨by omega, by omega, by omega, ?_⟩
  rw [v0]
  by_cases q : e = 2
  · rw [if_neg (fun h => h q), t123, t1213]
    obtain ⟨h1, h2, h3⟩ := hA.2.2.1 q
    obtain ⟨g1, g2⟩ := hp.2.2.2.2.2.1 q
    refine ⟨by omega, by omega, c_take (by omega) (by omega) (by omega) (by omega) (by omega) (by omega) (by omega) (fun s9 f9 v9 a9 => ?_)⟩
    have hf9 : fT s9 1 c := by
      refine ⟨by omega, by rw [v9]; exact h3.2.1, by rw [f9.nrl 0 1, l1]; omega, fun j hj => ?_⟩
      rw [a9 ((j : Nat) : Int) (by omega) (by rw [h3.2.1]; omega) (by omega) (by omega)]
      exact h3.2.2.2 j hj
    refine c_writeFlat (by omega) (hc.sq f9) (hC.fq (sq_r1 f9) (by decide)) hf9 g1 (g2.2 g1) (fun s11 f11 h11 => ?_)
    exact hq1 c (Or.inr ⟨q, rfl⟩) g1 s11 ((f9.mo (by decide)).tr (f11.mo (by decide))) h11
  · rw [if_pos q]
    refine ⟨by omega, c_writeGoal (T := T) (i := 0) (by omega) hc hC hA.2.1 hW200 hp.2.2.2.2.1 (fun hno σ' f' u1 u2 => ?_) (fun hin hl σ' f' h' => ?_)⟩
    · refine hq0 (fun v hv => ?_) σ' f' u1 u2
      rcases hv with ⟨w1, w2⟩ | ⟨w1, -⟩
      · have hk := hp.2.2.1 w1
        have hne : 0 < W.length := by
          cases hW : W with
          | nil => rw [hW] at hk; cases hk.1
          | cons z t => rw [List.length_cons]; omega
        rw [w2, hd_at]
        have : ¬ (rwZ (W.getD 0 d0z)).length ≤ 100 := fun w => hno ⟨⟨by omega, by omega⟩, w⟩
        omega
      · exact absurd w1 q
    · have he : e = 0 := Classical.byContradiction (fun w => by
        have := hp.2.2.2.1 w
        rw [this] at hin
        have := hin.2
        simp at this)
      exact hq1 _ (Or.inl ⟨he, (by rw [hd_at]; rfl)⟩) hl σ' f' h'
theorem t_writeAnswer {Q : Int → jS → Prop} (hn : 4 ≤ n) (hm : mln σ) (hA : aPm σ e s W a b c r k) (hp : aPp T e W c r k)
    (hq0 : (∀ v, anP e W c v → 100 < v.length) → Q (-1) σ)
    (hq1 : ∀ v, anP e W c v → v.length ≤ 100 → ∀ σ', sq ((1134, 0) :: wmF) σ σ' → mW σ' (wrW v []) → Q (((wrW v []).length : Nat) : Int) σ') : TrI n i_Model_writeAnswer [jo 1 0] σ Q := by
  have l25 := mln_at hm 1125 100 (by decide)
  refine wp_Model_writeAnswer ⟨by omega, ?_⟩
  rw [hA.1, if_neg (by decide)]
  refine ⟨by omega, wp_Model_isIn ?_⟩
  have go : ∀ v, anP e W c v → mAn σ v → rwG v → (if rs σ 1127 0 < 1 then (if (0 : Int) = 0 then Q (-1) σ else 0 ≤ rl σ 1125 0 ∧ TrI (n - 1) i_Model_writeRow [jo 1 0, ja 1125 0, ji 0, ji (rs σ 1127 0)] σ (fun zr7 zs6 => Q zr7 zs6)) else (if 100 < rs σ 1127 0 then (if (0 : Int) = 0 then Q (-1) σ else 0 ≤ rl σ 1125 0 ∧ TrI (n - 1) i_Model_writeRow [jo 1 0, ja 1125 0, ji 0, ji (rs σ 1127 0)] σ (fun zr7 zs6 => Q zr7 zs6)) else (if (1 : Int) = 0 then Q (-1) σ else 0 ≤ rl σ 1125 0 ∧ TrI (n - 1) i_Model_writeRow [jo 1 0, ja 1125 0, ji 0, ji (rs σ 1127 0)] σ (fun zr7 zs6 => Q zr7 zs6)))) := by
    intro v hv hA2 hG
    have g1 := hG.1
    rw [hA2.1]
    by_cases ql : v.length ≤ 100
    · rw [if_pos ql, if_neg (by omega), if_neg (by omega), if_neg (by decide)]
      refine ⟨by omega, t_writeRow (by omega) hm rfl rfl (by decide) ⟨by omega, by omega, fun j hj => ?_⟩ (by omega) ql (hG.2 ql) (fun σ' f' h' => hq1 v hv ql σ' f' h')⟩
      rw [show (0 : Int) + ((j : Nat) : Int) = ((j : Nat) : Int) by omega]
      exact hA2.2 ql j hj
    · rw [if_neg ql, if_neg (by decide), if_pos (by decide), if_pos rfl]
      refine hq0 (fun v' hv' => ?_)
      have : v' = v := by
        rcases hv with ⟨a1, a2⟩ | ⟨a1, a2⟩ <;> rcases hv' with ⟨b1, b2⟩ | ⟨b1, b2⟩
        · rw [a2, b2]
        · omega
        · omega
        · rw [a2, b2]
      rw [this]
      omega
  by_cases q0 : e = 0
  · have hk := hp.2.2.1 q0
    have hmem : W.headD d0z ∈ W := by
      cases hW : W with
      | nil => rw [hW] at hk; cases hk.1
      | cons z t => exact List.mem_cons_self
    exact go _ (Or.inl ⟨q0, rfl⟩) (hA.2.2.2.1 q0) (hp.2.2.2.2.1 _ hmem).2
  · by_cases q2 : e = 2
    · exact go c (Or.inr ⟨q2, rfl⟩) (hA.2.2.2.2.1 q2).2.2 (hp.2.2.2.2.2.1 q2).2
    · rw [hA.2.2.2.2.2.1 q0 q2, if_pos (by decide), if_pos rfl]
      refine hq0 (fun v hv => ?_)
      rcases hv with ⟨a1, -⟩ | ⟨a1, -⟩
      · exact absurd a1 q0
      · exact absurd a1 q2
end ZAv
