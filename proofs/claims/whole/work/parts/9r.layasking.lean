/-! What an asking leaves to be told: the reference. -/
/-- the answer's row -/
def mAn (σ : jS) (c : List Int) : Prop := rs σ 1127 0 = (if c.length ≤ 100 then ((c.length : Nat) : Int) else 101) ∧ (c.length ≤ 100 → ∀ j : Nat, j < c.length → ra σ 1125 0 ((j : Nat) : Int) = c.getD j 0)
def lwF : List (Nat × Int) := [(1125, 0), (1127, 0), (1039, 0), (1041, 0), (1042, 0), (1043, 0), (1044, 0), (1045, 0)]
section ZLy
variable {n : Nat} {σ0 σ σ1 : jS} {g : zH} {N : Int} {β : List (Int × Int)} {W : List zN} {x : Int}
theorem t_layAnswer {Q : jS → Prop} (hn : 2 ≤ n) (hH : mT σ g N β) (ha : acy g N β) (x0 : 0 ≤ x) (x1 : x < N) (hq : ∀ σ', sq lwF σ σ' → mAn σ' (cno [] (ex g N β x)) → Q σ') : TrV n i_Model_layAnswer [jo 1 0, ji x] σ Q := by
  have hm := hH.1
  have l41 := mln_at hm 1041 101 (by decide)
  have l25 := mln_at hm 1125 100 (by decide)
  refine wp_Model_layAnswer ⟨by omega, by omega, t_layOut (by omega) hH ha x0 x1 (fun s3 f3 r3 s5 e5 => ?_)⟩
  have f5 : sq [(1127, 0)] s3 s5 := by rw [e5]; exact (sq.rf _ s3).pws 1127 0 _ (by decide)
  have r5 : rs s5 1127 0 = (if (ex g N β x).length ≤ 100 then (((ex g N β x).length : Nat) : Int) else 101) := by rw [e5, rs_ws, if_pos ⟨rfl, rfl⟩]
  clear e5
  have f05 : sq lwF σ s5 := (f3.mo (by decide)).tr (f5.mo (by decide))
  obtain ⟨g1, g2, -⟩ := r3
  have tl : ((ex g N β x).take 100).length ≤ 100 := by rw [List.length_take]; omega
  rw [f05.nrl 1041 0, f05.nrl 1125 0, l41, l25, f5.nrs 1043 0 (by decide), g1]
  refine ⟨by omega, by omega, t_copy rfl rfl (by decide) (by decide) (by omega) (by rw [f05.nrl 1041 0, l41]; omega) (by omega) (by rw [f05.nrl 1125 0, l25]; omega) (by rw [f05.nrl 1041 0, l41]; omega) (by rw [f05.nrl 1125 0, l25]; omega) (fun s8 f8 r8 => ?_)⟩
  refine hq s8 (f05.tr (f8.mo (by decide))) ⟨by rw [f8.nrs 1127 0 (by decide), cno_len]; exact r5, fun hl j hj => ?_⟩
  rw [cno_len] at hl hj
  have et : (ex g N β x).take 100 = ex g N β x := List.take_of_length_le hl
  rw [et] at r8 g2
  rw [r8, if_pos (by omega), show (0 : Int) + (((j : Nat) : Int) - 0) = ((j : Nat) : Int) by omega, f5.nra 1041 0 _ (by decide)]
  exact g2 j hj
theorem mAn.sq {l : List (Nat × Int)} {c : List Int} (h : mAn σ c) (e : sq l σ σ1) (hl : (l.contains (1125, 0) || l.contains (1127, 0)) = false) : mAn σ1 c := by
  rw [Bool.or_eq_false_iff] at hl
  exact ⟨by rw [e.nrs 1127 0 hl.2]; exact h.1, fun q j hj => by rw [e.nra 1125 0 _ hl.1]; exact h.2 q j hj⟩
theorem mTr.sq {l : List (Nat × Int)} (h : mTr σ W) (e : sq l σ σ1) (hl : (([(1114, 0), (1115, 0), (1116, 0), (1117, 0), (1118, 0), (1119, 0), (1120, 0), (1121, 0), (1122, 0), (1123, 0), (1124, 0), (1126, 0)] : List (Nat × Int)).all (fun p => !l.contains p)) = true) : mTr σ1 W := by
  have hm : ∀ p, p ∈ ([(1114, 0), (1115, 0), (1116, 0), (1117, 0), (1118, 0), (1119, 0), (1120, 0), (1121, 0), (1122, 0), (1123, 0), (1124, 0), (1126, 0)] : List (Nat × Int)) → l.contains p = false := fun p hp => by
    have := List.all_eq_true.mp hl p hp
    simpa using this
  refine ⟨by rw [e.nrs 1126 0 (hm _ (by decide))]; exact h.1, fun i hi => nodeR_keep (h.2 i hi) (fun F hF => e.nra F 0 _ (hm _ ?_)) (fun j _ _ => e.nra 1123 0 _ (hm _ (by decide)))⟩
  have : ∀ F, F ∈ ([1114, 1115, 1116, 1117, 1118, 1119, 1120, 1121, 1122, 1124] : List Nat) → ((F, 0) : Nat × Int) ∈ ([(1114, 0), (1115, 0), (1116, 0), (1117, 0), (1118, 0), (1119, 0), (1120, 0), (1121, 0), (1122, 0), (1123, 0), (1124, 0), (1126, 0)] : List (Nat × Int)) := by decide
  exact this F hF
set_option maxRecDepth 8000 in
/-- the numbers of an asking -/
theorem t_lay80 {Q : jS → Prop} {e : Int} {s : zS} (hn : 2 ≤ n) (hm : mln σ) (hT : mTr σ W) (hW : W = [] ∨ trK W) (hv : rs σ 1103 0 = sA s ∧ rs σ 1104 0 = sMt s ∧ rs σ 1105 0 = sC s ∧ rs σ 1106 0 = sTr s ∧ rs σ 1107 0 = sD s) (hq : ∀ σ', sq [(1112, 0)] σ σ' → (∀ i : Nat, i < 9 → ra σ' 1112 0 ((i : Nat) : Int) = (tlW e s W).getD i 0) → Q σ') : J n c_Model_layAsking none 80 [some (jo 1 0), some (ji e), none, none] [] σ (qV Q) := by
  have l12 := mln_at hm 1112 9 (by decide)
  have l24 := mln_at hm 1124 200 (by decide)
  have l16 := mln_at hm 1116 200 (by decide)
  obtain ⟨v1, v2, v3, v4, v7⟩ := hv
  have hl : W.length ≤ 200 ∧ ∀ z, z ∈ W → 0 ≤ z.1 ∧ z.1 < 24 ∧ 0 ≤ z.2.2.2.2.2.1 ∧ z.2.2.2.2.2.1 ≤ 4 := by
    rcases hW with w | w
    · rw [w]; exact ⟨by decide, fun z hz => by cases hz⟩
    · exact w.2
  have hg := gvW_rng hl.2
  have one : ∀ {a b : jS} {i v : Int}, sq [(1112, 0)] σ a → b = wa a 1112 0 i v → sq [(1112, 0)] σ b ∧ ∀ j, ra b 1112 0 j = if j = i then v else ra a 1112 0 j := fun {a b i v} ea eb => by
    refine ⟨ea.tr (by rw [eb]; exact (sq.rf _ a).pwa 1112 0 _ _ (by decide)), fun j => ?_⟩
    rw [eb]
    unfold wa
    rw [raf_wA, if_pos ⟨rfl, rfl⟩]
    rfl
  refine wp_Model_layAsking_80 ⟨by omega, by omega, by omega, fun s3 e3 => ?_⟩
  obtain ⟨f3, r3⟩ := one (sq.rf _ _) e3
  rw [f3.nrl 1112 0, l12, f3.nrs 1103 0 (by decide), v1]
  refine ⟨by omega, by omega, fun s6 e6 => ?_⟩
  obtain ⟨f6, r6⟩ := one f3 e6
  rw [f6.nrl 1112 0, l12, f6.nrs 1104 0 (by decide), v2]
  refine ⟨by omega, by omega, fun s9 e9 => ?_⟩
  obtain ⟨f9, r9⟩ := one f6 e9
  rw [f9.nrl 1112 0, l12, f9.nrs 1105 0 (by decide), v3]
  refine ⟨by omega, by omega, fun s12 e12 => ?_⟩
  obtain ⟨f12, r12⟩ := one f9 e12
  rw [f12.nrl 1112 0, l12, f12.nrs 1106 0 (by decide), v4]
  refine ⟨by omega, by omega, fun s15 e15 => ?_⟩
  obtain ⟨f15, r15⟩ := one f12 e15
  rw [f15.nrl 1112 0, l12, f15.nrs 1126 0 (by decide), hT.1]
  refine ⟨by omega, by omega, fun s18 e18 => ?_⟩
  obtain ⟨f18, r18⟩ := one f15 e18
  rw [f18.nrl 1112 0, l12]
  refine ⟨by omega, by omega, fun s21 e21 => ?_⟩
  obtain ⟨f21, r21⟩ := one f18 e21
  rw [f21.nrl 1112 0, l12, f21.nrs 1107 0 (by decide), v7]
  refine ⟨by omega, by omega, fun s24 e24 => ?_⟩
  obtain ⟨f24, r24⟩ := one f21 e24
  have loop : ∀ (d k : Nat) (s2 : jS), k + d = W.length → sq [(1112, 0)] σ s2 → (∀ j, ra s2 1112 0 j = if j = 6 then mxZ (dpW W) k else ra s24 1112 0 j) → J n c_Model_layAsking none 160 [some (jo 1 0), none, some (ji (orZ (gvW W) k)), some (ji ((k : Nat) : Int))] [] s2 (qV Q) := by
    intro d
    induction d with
    | zero =>
      intro k s2 hk e2 h2
      refine wp_Model_layAsking_160 ⟨by omega, ?_⟩
      rw [e2.nrs 1126 0 (by decide), hT.1, if_pos (by omega), e2.nrl 1112 0, l12]
      have hb := orZ_bse (f := gvW W) (n := k) (fun j hj => hg j (by omega))
      have hp := bse_pos hb (fun w => by obtain ⟨j, hj, e⟩ := w; have := hg j (by omega); omega)
      refine ⟨by omega, by omega, t_bits hp.1 hp.2 ?_⟩
      rw [e2.nrl 1112 0, l12]
      refine ⟨by omega, fun s6' e6' => ?_⟩
      obtain ⟨f6', r6'⟩ := one e2 e6'
      refine hq s6' f6' (fun i hi => ?_)
      rw [r6', h2, show k = W.length by omega]
      unfold tlW
      have hi' : i = 0 ∨ i = 1 ∨ i = 2 ∨ i = 3 ∨ i = 4 ∨ i = 5 ∨ i = 6 ∨ i = 7 ∨ i = 8 := by omega
      rcases hi' with w | w | w | w | w | w | w | w | w <;> subst w
      · show ra s24 1112 0 0 = e
        rw [r24, if_neg (by decide), r21, if_neg (by decide), r18, if_neg (by decide), r15, if_neg (by decide), r12, if_neg (by decide), r9, if_neg (by decide), r6, if_neg (by decide), r3, if_pos rfl]
      · show ra s24 1112 0 1 = sA s
        rw [r24, if_neg (by decide), r21, if_neg (by decide), r18, if_neg (by decide), r15, if_neg (by decide), r12, if_neg (by decide), r9, if_neg (by decide), r6, if_pos rfl]
      · show ra s24 1112 0 2 = sMt s
        rw [r24, if_neg (by decide), r21, if_neg (by decide), r18, if_neg (by decide), r15, if_neg (by decide), r12, if_neg (by decide), r9, if_pos rfl]
      · show ra s24 1112 0 3 = sC s
        rw [r24, if_neg (by decide), r21, if_neg (by decide), r18, if_neg (by decide), r15, if_neg (by decide), r12, if_pos rfl]
      · show ra s24 1112 0 4 = sTr s
        rw [r24, if_neg (by decide), r21, if_neg (by decide), r18, if_neg (by decide), r15, if_pos rfl]
      · show ra s24 1112 0 5 = ((W.length : Nat) : Int)
        rw [r24, if_neg (by decide), r21, if_neg (by decide), r18, if_pos rfl]
      · rfl
      · show ra s24 1112 0 7 = sD s
        rw [r24, if_pos rfl]
      · rfl
    | succ d ih =>
      intro k s2 hk e2 h2
      have hnd := hT.2 k (by omega)
      refine wp_Model_layAsking_160 ⟨by omega, ?_⟩
      have h6 : ra s2 1112 0 6 = mxZ (dpW W) k := by rw [h2, if_pos rfl]
      have vd : ra s2 1124 0 ((k : Nat) : Int) = dpW W ((k : Nat) : Int) := by rw [e2.nra 1124 0 _ (by decide)]; exact hnd.2.2.2.2.2.2.2.2.2.2
      rw [e2.nrs 1126 0 (by decide), hT.1, if_neg (by omega), e2.nrl 1112 0, e2.nrl 1124 0, l12, l24, h6, vd]
      refine ⟨by omega, by omega, by omega, by omega, by omega, ?_⟩
      have go : ∀ s17 v, s17 = wa s2 1112 0 6 v → v = mxZ (dpW W) (k + 1) → 0 ≤ rl s17 1116 0 ∧ ((k : Nat) : Int) < rl s17 1116 0 ∧ i32 (((k : Nat) : Int) + 1) ∧ J n c_Model_layAsking none 160 [some (jo 1 0), none, some (ji (bOr (orZ (gvW W) k) (bShl 1 (ra s17 1116 0 ((k : Nat) : Int))))), some (ji (((k : Nat) : Int) + 1))] [] s17 (qV Q) := by
        intro s17 v e17 hv
        obtain ⟨f17, r17⟩ := one e2 e17
        have vg : ra s17 1116 0 ((k : Nat) : Int) = gvW W ((k : Nat) : Int) := by
          rw [f17.nra 1116 0 _ (by decide), hnd.2.2.1]
          unfold gvW
          rw [Int.toNat_natCast]
          rfl
        rw [f17.nrl 1116 0, l16, vg]
        refine ⟨by omega, by omega, ⟨by omega, by omega⟩, ?_⟩
        exact ih (k + 1) s17 (by omega) f17 (fun j => by
          rw [r17]
          by_cases q : j = 6
          · rw [if_pos q, if_pos q, hv]
          · rw [if_neg q, if_neg q, h2, if_neg q])
      have em : mxZ (dpW W) (k + 1) = max (mxZ (dpW W) k) (dpW W ((k : Nat) : Int)) := rfl
      by_cases q : dpW W ((k : Nat) : Int) ≤ mxZ (dpW W) k
      · rw [if_pos q]
        intro s13 e13
        exact go s13 _ e13 (by rw [em]; omega)
      · rw [if_neg q]
        intro s17 e17
        exact go s17 _ e17 (by rw [em]; omega)
  exact loop W.length 0 s24 (by omega) f24 (fun j => by
    by_cases q : j = 6
    · rw [if_pos q, q, r24, if_neg (by decide), r21, if_pos rfl]; rfl
    · rw [if_neg q])
end ZLy
