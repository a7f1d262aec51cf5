/-! How many values: a given one put against a closed goal; the count. -/
section ZVb
variable {g g' : zH} {N N' : Int} {β β' new : List (Int × Int)} {x y u t a b : Int} {T : zT} {r L : List Int}
/-- a closed goal's node, and nodes among which all lies that it leads to -/
def vOK (g : zH) (N : Int) (β : List (Int × Int)) (x : Int) (L r : List Int) : Prop := zok g N ∧ bok g N β ∧ acy g N β ∧ 0 ≤ N ∧ (0 ≤ x ∧ x < N) ∧ ex g N β x = r ∧ clr r ∧ x ∈ L ∧ (∀ m, m ∈ L → 0 ≤ m ∧ m < N) ∧ eclo g N β (fun m => m ∈ L)
theorem sml_eclo (hz : zok g N) (hb : bok g N β) (ha : acy g N β) (hL : ∀ m, m ∈ L → 0 ≤ m ∧ m < N) (h : eclo g N β (fun m => m ∈ L)) : sml g N β L := fun n hn => by
  obtain ⟨n0, n1⟩ := hL n hn
  refine ⟨n0, n1, fun k hk => ?_⟩
  have hm := (h n hn n0 n1).1 k hk
  exact eclo_sv hz hb ha h _ (hL _ hm).1 (hL _ hm).2 hm
theorem sbt_inj {θ θ' : Int → List Int} (h : ∀ v, Typ (θ v)) (h' : ∀ v, Typ (θ' v)) : ∀ {l : List Int}, sbt θ l = sbt θ' l → ∀ t, t ∈ l → t < 0 → θ t = θ' t := by
  intro l
  induction l with
  | nil => intro _ t ht; cases ht
  | cons a l ih =>
    intro e t ht hn
    by_cases q : a < 0
    · rw [sbt_cons_v q, sbt_cons_v q] at e
      obtain ⟨e1, e2⟩ := Typ_inj (h a) (h' a) e
      rcases List.mem_cons.mp ht with w | w
      · rw [w]; exact e1
      · exact ih e2 t w hn
    · rw [sbt_cons_c q, sbt_cons_c q] at e
      injection e with e1 e2
      rcases List.mem_cons.mp ht with w | w
      · omega
      · exact ih e2 t w hn
theorem mem_sbt {θ : Int → List Int} {l : List Int} : a ∈ sbt θ l ↔ ∃ t, t ∈ l ∧ ((t < 0 ∧ a ∈ θ t) ∨ (¬ t < 0 ∧ a = t)) := by
  unfold sbt
  rw [List.mem_flatMap]
  constructor
  · rintro ⟨t, ht, h⟩
    refine ⟨t, ht, ?_⟩
    by_cases q : t < 0
    · rw [if_pos q] at h; exact Or.inl ⟨q, h⟩
    · rw [if_neg q] at h; exact Or.inr ⟨q, by simpa using h⟩
  · rintro ⟨t, ht, h⟩
    refine ⟨t, ht, ?_⟩
    rcases h with ⟨q, h⟩ | ⟨q, h⟩
    · rw [if_pos q]; exact h
    · rw [if_neg q, h]; simp
theorem sbt_le {θ : Int → List Int} {m : Nat} (hm : 1 ≤ m) : ∀ {l : List Int}, (∀ t, t ∈ l → t < 0 → (θ t).length ≤ m) → (sbt θ l).length ≤ l.length * m := by
  intro l
  induction l with
  | nil => intro _; exact Nat.zero_le _
  | cons a l ih =>
    intro h
    have ih := ih (fun t ht => h t (List.mem_cons_of_mem _ ht))
    rw [List.length_cons, Nat.succ_mul]
    by_cases q : a < 0
    · have := h a List.mem_cons_self q
      rw [sbt_cons_v q, List.length_append]
      omega
    · rw [sbt_cons_c q, List.length_cons]
      omega
/-- a given one's RESULT and a closed goal -/
theorem vU {k : Int} (hT : tok T) (k0 : 0 ≤ k) (k1 : k < tG T) (hvar : ∀ i : Nat, i ≤ tN T k → ∀ t, t ∈ tR T k i → t < 0 → t ∈ tR T k 0) (h : vOK g N β x L r) : ∃ Rs : List Int, Rs.length ≤ 12 + L.length ∧ acy (layGv T k g N).1 (layGv T k g N).2.1 β ∧ sml (layGv T k g N).1 (layGv T k g N).2.1 β Rs ∧ (0 ≤ (layGv T k g N).2.2.1 ∧ (layGv T k g N).2.2.1 < (layGv T k g N).2.1) ∧ (0 ≤ x ∧ x < (layGv T k g N).2.1) ∧ sv (layGv T k g N).1 (layGv T k g N).2.1 β (layGv T k g N).2.2.1 ∈ Rs ∧ sv (layGv T k g N).1 (layGv T k g N).2.1 β x ∈ Rs ∧ (∀ kk, crun (layGv T k g N).1 (layGv T k g N).2.1 kk β [((layGv T k g N).2.2.1, x)] → kk ≤ r.length) ∧
    ∀ b new, bok (layGv T k g N).1 (layGv T k g N).2.1 (new ++ β) → uOk (layGv T k g N).1 (layGv T k g N).2.1 β Rs (layGv T k g N).2.2.1 x b new →
      (b = 1 ∧ becm (tR T k 0) r ∧ acy (layGv T k g N).1 (layGv T k g N).2.1 (new ++ β) ∧ ∀ θ : Int → List Int, (∀ v, Typ (θ v)) → sbt θ (tR T k 0) = r → ∀ q : Nat, q < (tN T k).toNat → ∃ L' : List Int, L'.length ≤ L.length + 24 ∧ vOK (layGv T k g N).1 (layGv T k g N).2.1 (new ++ β) ((layGv T k g N).2.2.2.getD q 0) L' (sbt θ (tR T k (q + 1))) ∧ (sbt θ (tR T k (q + 1))).length ≤ 12 * r.length) ∨ (b = 0 ∧ ¬ becm (tR T k 0) r) := by
  obtain ⟨hz, hb, ha, h0, ⟨x0, x1⟩, hx, hc, xL, hL, hE⟩ := h
  obtain ⟨R0, vs1, c1, c2, c3, c4, c5, c6, c7, c8⟩ := gv_v hT k0 k1 hvar hz h0
  obtain ⟨a1, a2, a3, a4, a5, ⟨a6, a6b⟩, a7, a8⟩ := lgv_ok hT k0 k1 hz h0
  obtain ⟨-, -, t1, t2, t3⟩ := hT.2.2.2.2.2 k k0 k1
  generalize layGv T k g N = A at *
  have hb' : bok A.1 A.2.1 β := bok_ext a3 a1 hb
  have ha' : acy A.1 A.2.1 β := acy_ext a3 a1 hz a4 hb ha
  have hex : ex A.1 A.2.1 β x = r := by rw [ex_ext a3 a1 hz a4 hb ha x x0 x1]; exact hx
  have hK : eclo A.1 A.2.1 β (fun m => m ∈ R0 ++ L) := fun m hm m0 m1 => by
    rcases List.mem_append.mp hm with w | w
    · refine ⟨fun p hp => List.mem_append_left _ (c4 m w p hp), fun hf => ?_⟩
      have := bok_at hb hf
      have := (c2 m w).1
      omega
    · obtain ⟨d1, d2⟩ := hL m w
      obtain ⟨e1, e2⟩ := hE m w d1 d2
      have b := a3 m d1 d2
      rw [b.1]
      exact ⟨fun p hp => by rw [b.2 p]; exact List.mem_append_right _ (e1 p hp), fun hf => List.mem_append_right _ (e2 hf)⟩
  have hLL : ∀ m, m ∈ R0 ++ L → 0 ≤ m ∧ m < A.2.1 := fun m hm => by
    rcases List.mem_append.mp hm with w | w
    · have := c2 m w; exact ⟨by omega, this.2⟩
    · have := hL m w; exact ⟨this.1, by omega⟩
  refine ⟨R0 ++ L, by rw [List.length_append]; omega, ha', sml_eclo a4 hb' ha' hLL hK, ⟨a6, a6b⟩, ⟨x0, by omega⟩, eclo_sv a4 hb' ha' hK _ a6 a6b (List.mem_append_left _ c3), eclo_sv a4 hb' ha' hK _ x0 (by omega) (List.mem_append_right _ xL), fun kk hkk => ?_, fun b new hbn hu => ?_⟩
  · have := crun_cl a4 kk β _ hkk hb' ha' (fun p hp => by
      have e : p = (A.2.2.1, x) := by simpa using hp
      rw [e]
      exact ⟨⟨a6, a6b, x0, by show x < A.2.1; omega⟩, by show clr (ex A.1 A.2.1 β x); rw [hex]; exact hc⟩)
    rw [mz3_cons] at this
    have e2 : mz3 A.1 A.2.1 β [] = 0 := rfl
    dsimp only at this
    rw [hex, e2] at this
    exact this
  · rcases hu with ⟨b1, u1, u2, u3, u4⟩ | ⟨b0, u0⟩
    · refine Or.inl ⟨b1, ?_⟩
      have hs := ex_sol a4 hbn u1
      obtain ⟨s1, s2⟩ := (u4 _).mp hs
      have hst := (sol_iff.mp s1).1
      have e1 : ex A.1 A.2.1 (new ++ β) x = r := by
        rw [← hex]
        exact ex_cl_app a4 hb' ha' hbn u1 (fun ρ hρ => ((u4 ρ).mp hρ).1) x0 (by omega) (by rw [hex]; exact hc)
      have e2 := c6 _ hst
      rw [s2, e1] at e2
      have hty : ∀ v, Typ ((fun t => if t ∈ tR T k 0 ∧ t < 0 then ex A.1 A.2.1 (new ++ β) (vs1 (-1 - t)) else [0]) v) := fun v => by
        show Typ (if v ∈ tR T k 0 ∧ v < 0 then ex A.1 A.2.1 (new ++ β) (vs1 (-1 - v)) else [0])
        by_cases w : v ∈ tR T k 0 ∧ v < 0
        · rw [if_pos w]
          have := c2 _ (c5 v w.1 w.2)
          exact ex_typ a4 hbn u1 _ (by omega) this.2
        · rw [if_neg w]; exact Typ_0
      have e3 : sbt (fun t => if t ∈ tR T k 0 ∧ t < 0 then ex A.1 A.2.1 (new ++ β) (vs1 (-1 - t)) else [0]) (tR T k 0) = r := by
        rw [e2]
        exact sbt_ext (fun t ht hn => if_pos ⟨ht, hn⟩)
      refine ⟨⟨_, hty, e3⟩, u1, fun θ hθ he q hq => ?_⟩
      obtain ⟨R, d1, d2, d3, d4, d5⟩ := c8 q hq
      have hK2 := u3 _ hK (List.mem_append_left _ c3) (List.mem_append_right _ xL)
      have hK3 := eclo_app hK hK2.1
      have hag : ∀ t, t ∈ tR T k 0 → t < 0 → ex A.1 A.2.1 (new ++ β) (vs1 (-1 - t)) = θ t := fun t ht hn => by
        have := sbt_inj hty hθ (e3.trans he.symm) t ht hn
        rw [if_pos ⟨ht, hn⟩] at this
        exact this
      have e5 : ex A.1 A.2.1 (new ++ β) (A.2.2.2.getD q 0) = sbt θ (tR T k (q + 1)) := by
        rw [d5 _ hst]
        exact sbt_ext (fun t ht hn => hag t (hvar (q + 1) (by omega) t ht hn) hn)
      have hym : A.2.2.2.getD q 0 ∈ R ++ R0 := d3
      have hyr : 0 ≤ A.2.2.2.getD q 0 ∧ A.2.2.2.getD q 0 < A.2.1 := by
        rcases List.mem_append.mp hym with w | w
        · have := d2 _ w; exact ⟨by omega, this.2⟩
        · have := c2 _ w; exact ⟨by omega, this.2⟩
      have hθr : ∀ t, t ∈ tR T k (q + 1) → t < 0 → (∀ a, a ∈ θ t → a ∈ r) ∧ (θ t).length ≤ r.length := fun t ht hn => by
        have ht0 := hvar (q + 1) (by omega) t ht hn
        refine ⟨fun a ha => by rw [← he]; exact mem_sbt.mpr ⟨t, ht0, Or.inl ⟨hn, ha⟩⟩, ?_⟩
        have h1 := sbt_ge (θ := θ) (fun w _ => Typ_ne (hθ w)) hn ht0
        rw [he] at h1
        have h2 : 1 ≤ (tR T k 0).length := List.length_pos_of_mem ht0
        omega
      refine ⟨R ++ (R0 ++ L), by rw [List.length_append, List.length_append]; omega, ⟨a4, hbn, u1, by omega, hyr, e5, fun a ha => ?_, ?_, fun m hm => ?_, fun m hm m0 m1 => ?_⟩, ?_⟩
      · obtain ⟨t, ht, w⟩ := mem_sbt.mp ha
        rcases w with ⟨q1, q2⟩ | ⟨q1, q2⟩
        · exact hc a ((hθr t ht q1).1 a q2)
        · omega
      · rcases List.mem_append.mp hym with w | w
        · exact List.mem_append_left _ w
        · exact List.mem_append_right _ (List.mem_append_left _ w)
      · rcases List.mem_append.mp hm with w | w
        · have := d2 m w; exact ⟨by omega, this.2⟩
        · exact hLL m w
      · rcases List.mem_append.mp hm with w | w
        · refine ⟨fun p hp => ?_, fun hf => ?_⟩
          · rcases List.mem_append.mp (d4 m w p hp) with w2 | w2
            · exact List.mem_append_left _ w2
            · exact List.mem_append_right _ (List.mem_append_left _ w2)
          · obtain ⟨t, ht⟩ := bl_key hf
            rcases List.mem_append.mp ht with w2 | w2
            · have hm2 := (hK2.1 _ w2).1
              exact List.mem_append_right _ ((hK3 m hm2 m0 m1).2 hf)
            · have := (bok_all hb _ w2).1
              have := d2 m w
              dsimp only at *
              omega
        · obtain ⟨z1, z2⟩ := hK3 m w m0 m1
          exact ⟨fun p hp => List.mem_append_right _ (z1 p hp), fun hf => List.mem_append_right _ (z2 hf)⟩
      · have h2 := (t3 (q + 1) (by omega)).2.2
        have h3 : 1 ≤ r.length := by rw [← hx]; exact ex_ne hz hb ha x0 x1
        have := sbt_le (θ := θ) h3 (l := tR T k (q + 1)) (fun t ht hn => (hθr t ht hn).2)
        exact Nat.le_trans this (Nat.mul_le_mul_right _ h2)
    · refine Or.inr ⟨b0, fun hbc => ?_⟩
      obtain ⟨θ, hθ, he⟩ := hbc
      have hs := ex_sol hz hb ha
      have hrep := rep_self hb ha
      obtain ⟨q1, q2⟩ := (hrep.2.2 _).mp hs
      obtain ⟨ρ, w1, w2, w3⟩ := c7 _ q1 θ hθ
      have hrep' := rep_self hb' ha'
      refine u0 ρ ((hrep'.2.2 ρ).mpr ⟨w1, fun p hp => ?_⟩) ?_
      · have := bok_all hb p hp
        rw [w2 _ (by omega), w2 _ (by omega)]
        exact q2 p hp
      · rw [w3, w2 x x1, hx, he]
/-- what is put for a given one's letters, that its RESULT is this goal -/
noncomputable def vth (T : zT) (k : Int) (r : List Int) : Int → List Int := Classical.epsilon (fun θ : Int → List Int => (∀ v, Typ (θ v)) ∧ sbt θ (tR T k 0) = r)
theorem vth_ok {k : Int} (h : becm (tR T k 0) r) : (∀ v, Typ (vth T k r v)) ∧ sbt (vth T k r) (tR T k 0) = r := Classical.epsilon_spec (p := fun θ : Int → List Int => (∀ v, Typ (θ v)) ∧ sbt θ (tR T k 0) = r) h
/-- the product over the NEEDS -/
def vPr (f : List Int → Int) (T : zT) (k : Int) (θ : Int → List Int) : Nat → Int
  | 0 => 1
  | i + 1 => min (vPr f T k θ i * f (sbt θ (tR T k (i + 1)))) 1000000
/-- the sum over the GIVENS -/
def vSm (c : Nat → Int) : Nat → Int
  | 0 => 0
  | k + 1 => min (vSm c k + c k) 1000000
/-- by one given one -/
noncomputable def vCt (T : zT) (may : Int) (f : Option (List Int → Int)) (r : List Int) (k : Nat) : Int :=
  have : Decidable (tb may (k : Int) = true ∧ becm (tR T k 0) r) := Classical.propDecidable _
  if tb may (k : Int) = true ∧ becm (tR T k 0) r then (if tN T k = 0 then 1 else match f with
    | none => 0
    | some f => vPr f T k (vth T k r) (tN T k).toNat) else 0
/-- how many values a closed type has -/
noncomputable def vl (T : zT) (may : Int) : Nat → List Int → Int
  | 0, r => vSm (vCt T may none r) (tG T).toNat
  | d + 1, r => vSm (vCt T may (some (vl T may d)) r) (tG T).toNat
theorem vCt_yes {may : Int} {f : Option (List Int → Int)} {k : Nat} (h : tb may (k : Int) = true ∧ becm (tR T k 0) r) : vCt T may f r k = if tN T k = 0 then 1 else match f with
    | none => 0
    | some f => vPr f T k (vth T k r) (tN T k).toNat := if_pos h
theorem vCt_no {may : Int} {f : Option (List Int → Int)} {k : Nat} (h : ¬ (tb may (k : Int) = true ∧ becm (tR T k 0) r)) : vCt T may f r k = 0 := if_neg h
theorem vPr_b {f : List Int → Int} {k : Int} {θ : Int → List Int} (hf : ∀ r, 0 ≤ f r) : ∀ i, 0 ≤ vPr f T k θ i ∧ vPr f T k θ i ≤ 1000000 := by
  intro i
  cases i with
  | zero => exact ⟨show (0 : Int) ≤ 1 by decide, show (1 : Int) ≤ 1000000 by decide⟩
  | succ i =>
    have h1 : ∀ i, 0 ≤ vPr f T k θ i := by
      intro i
      induction i with
      | zero => exact (show (0 : Int) ≤ 1 by decide)
      | succ i ih =>
        have := Int.mul_nonneg ih (hf (sbt θ (tR T k (i + 1))))
        show 0 ≤ min _ _
        omega
    refine ⟨h1 _, ?_⟩
    show min _ _ ≤ _
    omega
theorem vSm_b {c : Nat → Int} (hc : ∀ k, 0 ≤ c k) : ∀ k, 0 ≤ vSm c k ∧ vSm c k ≤ 1000000 := by
  intro k
  induction k with
  | zero => exact ⟨Int.le_refl _, show (0 : Int) ≤ 1000000 by decide⟩
  | succ k ih =>
    have := hc k
    show 0 ≤ min _ _ ∧ min _ _ ≤ _
    omega
theorem vCt_b {may : Int} {f : Option (List Int → Int)} (hf : ∀ f', f = some f' → ∀ r, 0 ≤ f' r) (k : Nat) : 0 ≤ vCt T may f r k ∧ vCt T may f r k ≤ 1000000 := by
  by_cases h : tb may (k : Int) = true ∧ becm (tR T k 0) r
  · rw [vCt_yes h]
    split
    · decide
    · cases f with
      | none => exact ⟨Int.le_refl _, show (0 : Int) ≤ 1000000 by decide⟩
      | some f => exact vPr_b (hf f rfl) _
  · rw [vCt_no h]
    decide
theorem vl_b {may : Int} : ∀ (d : Nat) (r : List Int), 0 ≤ vl T may d r ∧ vl T may d r ≤ 1000000 := by
  intro d
  induction d with
  | zero => intro r; exact vSm_b (fun k => (vCt_b (fun f' h => by cases h) k).1) _
  | succ d ih => intro r; exact vSm_b (fun k => (vCt_b (fun f' h r => by cases h; exact (ih r).1) k).1) _
end ZVb
