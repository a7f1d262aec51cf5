/-! Types are told. -/
/-- what a type that is told changes -/
def ctF (i : Int) : List (Nat × Int) := [(0, 0), (1, 0), (8001, 0), (8003, 0), (8000, 0), (12008, 0), (0, 247 + i), (1, 247 + i)]
/-- what one that is bad changes -/
def ct0 : List (Nat × Int) := [(0, 0), (1, 0), (8001, 0), (8003, 0), (8000, 0), (12008, 0)]
def ttF : List (Nat × Int) := (1001, 0) :: (1046, 0) :: (1047, 0) :: rtF
section ZTp
variable {n : Nat} {σ0 σ σ1 : jS} {T : zT} {M : zM} {D : List Int} {i : Int}
theorem c_hasType {Q : Int → jS → Prop} (hc : cln σ) (h0 : ¬ (0 ≤ i ∧ i < 4) → Q 0 σ) (h1 : 0 ≤ i ∧ i < 4 → Q 1 σ) : TrI n i_Top_hasType [jo 12 0, ji i] σ Q := by
  have l := cln_at hc 12001 0 4 (by decide)
  refine wp_Top_hasType ?_
  by_cases q : i < 0
  · rw [if_pos q]; exact h0 (by omega)
  · rw [if_neg q, l]
    refine ⟨by omega, by omega, ?_⟩
    by_cases q2 : 4 ≤ i
    · rw [if_pos q2]; exact h0 (by omega)
    · rw [if_neg q2]; exact h1 (by omega)
/-- the row that is read is a type -/
theorem rdW_rw (h : rdW D = true) : rwk (rdT D 0).2.2 ∧ (rdT D 0).2.1 = D.length := by
  unfold rdW at h
  rw [Bool.and_eq_true, decide_eq_true_iff] at h
  exact ⟨(rdT_ok (D := D) (a := 0) (Nat.zero_le _)).2 h.1, h.2⟩
theorem c_type {Q : Int → jS → Prop} (hn : 8 ≤ n) (hc : cln σ) (hC : cC σ) (hD : cTp σ D) (hY : 0 ≤ i → i < 4 → ra σ 12001 0 i = 247 + i)
    (hq0 : ∀ σ', sq ct0 σ σ' → (¬ (0 ≤ i ∧ i < 4) ∨ rdW D = false) → rs σ' 12008 0 = (if 0 ≤ i ∧ i < 4 then (((rdT D 0).2.1 : Nat) : Int) else -1) → rs σ' 8000 0 = 0 → Q (-1) σ')
    (hq1 : 0 ≤ i ∧ i < 4 → rdW D = true → ∀ σ', sq (ctF i) σ σ' → rs σ' 12008 0 = -1 → rs σ' 8000 0 = 0 → fT σ' (247 + i) (rdT D 0).2.2 → Q (((rdT D 0).2.2.length : Nat) : Int) σ') : TrI n i_Top_type [jo 12 0, ji i] σ Q := by
  have lF0 := hC.2.1 (0, 12) (by decide)
  have t120 := cC_at hC 12000 0 0 (by decide)
  have t122 := cC_at hC 12002 0 0 (by decide)
  refine wp_Top_type ⟨by omega, by omega, c_hasType hc (fun qi => ?_) (fun qi => ?_)⟩
  · rw [if_pos rfl]
    refine wp_Top_type_28 ⟨by omega, ?_⟩
    rw [if_pos rfl]
    intro s2 e2
    have f2 : sq [(12008, 0)] σ s2 := by rw [e2]; exact (sq.rf _ σ).pws 12008 0 _ (by decide)
    have r2 : rs s2 12008 0 = -1 := by rw [e2, rs_ws, if_pos ⟨rfl, rfl⟩]
    clear e2
    rw [f2.nrs 12000 0 (by decide), t120]
    refine ⟨by omega, fun s4 e4 => ?_⟩
    have f4 : sq [(8000, 0)] s2 s4 := by rw [e4]; exact (sq.rf _ s2).pws 8000 0 _ (by decide)
    have r4 : rs s4 8000 0 = 0 := by rw [e4, rs_ws, if_pos ⟨rfl, rfl⟩]
    clear e4
    have f24 : sq [(12008, 0), (8000, 0)] σ s4 := (f2.mo (by decide)).tr (f4.mo (by decide))
    exact hq0 s4 (f24.mo (by decide)) (Or.inl qi) (by rw [f4.nrs 12008 0 (by decide), if_neg qi]; exact r2) r4
  · rw [if_neg (by decide), t120, t122]
    refine ⟨by omega, c_readWhole (o := 0) (by omega) hc hD (by omega) lF0 (fun hx s6 f6 hf => ?_) (fun hx s6 f6 v1 => ?_)⟩
    · have f6 : sq [(0, 0), (1, 0), (8001, 0), (8003, 0)] σ s6 := f6.mo (by unfold tyF; decide)
      rw [if_neg (by decide), if_neg (by decide)]
      intro s8 e8
      have f8 : sq [(12008, 0)] s6 s8 := by rw [e8]; exact (sq.rf _ s6).pws 12008 0 _ (by decide)
      have r8 : rs s8 12008 0 = -1 := by rw [e8, rs_ws, if_pos ⟨rfl, rfl⟩]
      clear e8
      rw [f8.nrs 12000 0 (by decide), f6.nrs 12000 0 (by decide), t120]
      refine ⟨by omega, fun s10 e10 => ?_⟩
      have f10 : sq [(8000, 0)] s8 s10 := by rw [e10]; exact (sq.rf _ s8).pws 8000 0 _ (by decide)
      have r10 : rs s10 8000 0 = 0 := by rw [e10, rs_ws, if_pos ⟨rfl, rfl⟩]
      clear e10
      have f610 : sq [(12008, 0), (8000, 0)] s6 s10 := (f8.mo (by decide)).tr (f10.mo (by decide))
      have f010 : sq [(0, 0), (1, 0), (8001, 0), (8003, 0), (12008, 0), (8000, 0)] σ s10 := (f6.mo (by decide)).tr (f610.mo (by decide))
      rw [f010.nrl 12001 0, cln_at hc 12001 0 4 (by decide), f010.nra 12001 0 _ (by decide), hY qi.1 qi.2, f010.nrs 12002 0 (by decide), t122]
      have hf10 : fT s10 0 (rdT D 0).2.2 := hf.sq f610 (by decide)
      have l247 : rl s10 0 (247 + i) = 12 := by
        rw [f010.nrl 0 _]
        have : ∀ k : Nat, k < 4 → ((247 + ((k : Nat) : Int), (12 : Int)) : Int × Int) ∈ clfT := by decide
        have := hC.2.1 _ (this i.toNat (by omega))
        rw [show 247 + ((i.toNat : Nat) : Int) = 247 + i by omega] at this
        exact this
      have l0 : rl s10 0 0 = 12 := by rw [f010.nrl 0 _]; exact lF0
      have h12 := (rdW_rw hx).1.2.2
      refine ⟨by omega, by omega, by omega, by omega, c_take (by omega) (by omega) (by omega) (by omega) (by omega) (by omega) (by omega) (fun s15 f15 v15 a15 => ?_)⟩
      have n15 : ∀ F o, 2 ≤ F → ([(0, 247 + i), (1, 247 + i)] : List (Nat × Int)).contains (F, o) = false := fun F o hF => by
        simp
        omega
      have n0 : ∀ F : Nat, ([(0, 247 + i), (1, 247 + i)] : List (Nat × Int)).contains (F, 0) = false := fun F => by
        simp
        omega
      have e122 : rs s15 12002 0 = 0 := by rw [f15.nrs 12002 0 (n15 _ _ (by decide)), f010.nrs 12002 0 (by decide), t122]
      rw [e122, f15.nrs 1 0 (n0 _), hf10.2.1]
      refine ⟨by omega, hq1 qi hx s15 ?_ (by rw [f15.nrs 12008 0 (n15 _ _ (by decide)), f10.nrs 12008 0 (by decide)]; exact r8) (by rw [f15.nrs 8000 0 (n15 _ _ (by decide))]; exact r10) ⟨by omega, by rw [v15]; exact hf10.2.1, by rw [f15.nrl 0 _, l247]; omega, fun k hk => ?_⟩⟩
      · exact (f010.mo (by simp [ctF])).tr (f15.mo (by simp [ctF]))
      · rw [a15 ((k : Nat) : Int) (by omega) (by rw [hf10.2.1]; omega) (by omega) (by omega)]
        exact hf10.2.2.2 k hk
    · have f6 : sq [(0, 0), (1, 0), (8001, 0), (8003, 0)] σ s6 := f6.mo (by unfold tyF; decide)
      rw [if_pos rfl]
      refine wp_Top_type_28 ⟨by omega, ?_⟩
      rw [if_neg (by decide), f6.nrs 12000 0 (by decide), t120, v1]
      refine ⟨by omega, fun s8 e8 => ?_⟩
      have f8 : sq [(12008, 0)] s6 s8 := by rw [e8]; exact (sq.rf _ s6).pws 12008 0 _ (by decide)
      have r8 : rs s8 12008 0 = (((rdT D 0).2.1 : Nat) : Int) := by rw [e8, rs_ws, if_pos ⟨rfl, rfl⟩]
      clear e8
      rw [f8.nrs 12000 0 (by decide), f6.nrs 12000 0 (by decide), t120]
      refine ⟨by omega, fun s10 e10 => ?_⟩
      have f10 : sq [(8000, 0)] s8 s10 := by rw [e10]; exact (sq.rf _ s8).pws 8000 0 _ (by decide)
      have r10 : rs s10 8000 0 = 0 := by rw [e10, rs_ws, if_pos ⟨rfl, rfl⟩]
      clear e10
      have f610 : sq [(12008, 0), (8000, 0)] s6 s10 := (f8.mo (by decide)).tr (f10.mo (by decide))
      have f010 : sq [(0, 0), (1, 0), (8001, 0), (8003, 0), (12008, 0), (8000, 0)] σ s10 := (f6.mo (by decide)).tr (f610.mo (by decide))
      exact hq0 s10 (f010.mo (by decide)) (Or.inr hx) (by rw [f10.nrs 12008 0 (by decide), if_pos qi]; exact r8) r10
theorem t_type {Q : Int → jS → Prop} (hn : 6 ≤ n) (hm : mln σ) (hD : mTp σ D)
    (hq0 : ∀ σ', sq ((1001, 0) :: rtF) σ σ' → (¬ (0 ≤ i ∧ i < 4) ∨ rdW D = false) → rs σ' 1003 0 = (if 0 ≤ i ∧ i < 4 then (((rdT D 0).2.1 : Nat) : Int) else -1) → rs σ' 1001 0 = 0 → Q (-1) σ')
    (hq1 : 0 ≤ i ∧ i < 4 → rdW D = true → ∀ σ', sq ttF σ σ' → rs σ' 1003 0 = -1 → rs σ' 1001 0 = 0 → (∀ k, ra σ' 1047 0 k = if k = i then (((rdT D 0).2.2.length : Nat) : Int) else ra σ 1047 0 k) → (∀ k, ra σ' 1046 0 k = if 12 * i ≤ k ∧ k < 12 * i + (((rdT D 0).2.2.length : Nat) : Int) then (rdT D 0).2.2.getD (k - 12 * i).toNat 0 else ra σ 1046 0 k) → Q (((rdT D 0).2.2.length : Nat) : Int) σ') : TrI n i_Model_type [jo 1 0, ji i] σ Q := by
  have l47 := mln_at hm 1047 4 (by decide)
  have l46 := mln_at hm 1046 48 (by decide)
  have l04 := mln_at hm 1004 12 (by decide)
  have isin : ∀ {m : Nat} {s : jS} {K : Int → jS → Prop}, (¬ (0 ≤ i ∧ i < 4) → K 0 s) → (0 ≤ i ∧ i < 4 → K 1 s) → TrI m i_Model_isIn [ji i, ji 0, ji 3] s K := fun h0 h1 => by
    refine wp_Model_isIn ?_
    by_cases q : i < 0
    · rw [if_pos q]; exact h0 (by omega)
    · rw [if_neg q]
      by_cases q2 : 3 < i
      · rw [if_pos q2]; exact h0 (by omega)
      · rw [if_neg q2]; exact h1 (by omega)
  have fin0 : ∀ s7, sq rtF σ s7 → (¬ (0 ≤ i ∧ i < 4) ∨ rdW D = false) → rs s7 1003 0 = (if 0 ≤ i ∧ i < 4 then (((rdT D 0).2.1 : Nat) : Int) else -1) → J n c_Model_type (some .int) 36 [some (jo 1 0), some (ji i), some (ji 0)] [] s7 (qI Q) := by
    intro s7 e7 hw v3
    refine wp_Model_type_36 ⟨by omega, fun s2 e2 => ?_⟩
    have f2 : sq [(1001, 0)] s7 s2 := by rw [e2]; exact (sq.rf _ s7).pws 1001 0 _ (by decide)
    have r2 : rs s2 1001 0 = 0 := by rw [e2, rs_ws, if_pos ⟨rfl, rfl⟩]
    rw [if_neg (by decide)]
    exact hq0 s2 ((e7.mo (by decide)).tr (f2.mo (by decide))) hw (by rw [f2.nrs 1003 0 (by decide)]; exact v3) r2
  refine wp_Model_type ⟨by omega, isin (fun qi => ?_) (fun qi => ?_)⟩
  · rw [if_pos rfl]
    refine isin (fun _ => ?_) (fun w => absurd w qi)
    rw [if_neg (by decide)]
    refine ⟨by omega, fun s7 e7 => ?_⟩
    have f7 : sq [(1003, 0)] σ s7 := by rw [e7]; exact (sq.rf _ σ).pws 1003 0 _ (by decide)
    exact fin0 s7 (f7.mo (by decide)) (Or.inl qi) (by rw [e7, rs_ws, if_pos ⟨rfl, rfl⟩, if_neg qi])
  · rw [if_neg (by decide)]
    refine ⟨by omega, t_readWhole (by omega) hm hD (fun hx s9 f9 v3 v6 v4 => ?_) (fun hx s9 f9 v3 => ?_)⟩
    · rw [if_neg (by decide)]
      refine isin (fun w => absurd qi w) (fun _ => ?_)
      rw [if_pos (by decide)]
      have h12 := (rdW_rw hx).1.2.2
      refine wp_Model_type_36 ⟨by omega, fun s2 e2 => ?_⟩
      have f2 : sq [(1001, 0)] s9 s2 := by rw [e2]; exact (sq.rf _ s9).pws 1001 0 _ (by decide)
      have r2 : rs s2 1001 0 = 0 := by rw [e2, rs_ws, if_pos ⟨rfl, rfl⟩]
      clear e2
      have f02 : sq ((1001, 0) :: rtF) σ s2 := (f9.mo (by decide)).tr (f2.mo (by decide))
      rw [if_pos (by decide), f02.nrl 1047 0, l47, f2.nrs 1006 0 (by decide), v6]
      refine ⟨by omega, by omega, by omega, fun s4 e4 => ?_⟩
      have f4 : sq [(1047, 0)] s2 s4 := by rw [e4]; exact (sq.rf _ s2).pwa 1047 0 _ _ (by decide)
      have r4 : ∀ k, ra s4 1047 0 k = if k = i then (((rdT D 0).2.2.length : Nat) : Int) else ra s2 1047 0 k := fun k => by
        rw [e4]
        unfold wa
        rw [raf_wA, if_pos ⟨rfl, rfl⟩]
        rfl
      clear e4
      have f04 : sq ((1001, 0) :: (1047, 0) :: rtF) σ s4 := (f02.mo (by decide)).tr (f4.mo (by decide))
      have e6 : rs s4 1006 0 = (((rdT D 0).2.2.length : Nat) : Int) := by rw [f4.nrs 1006 0 (by decide), f2.nrs 1006 0 (by decide)]; exact v6
      rw [f04.nrl 1004 0, f04.nrl 1046 0, l04, l46, e6]
      refine ⟨by omega, by omega, ⟨by omega, by omega⟩, by omega, t_copy rfl rfl (by decide) (by decide) (by omega) (by rw [f04.nrl 1004 0, l04]; omega) (by omega) (by rw [f04.nrl 1046 0, l46]; omega) (by rw [f04.nrl 1004 0, l04]; omega) (by rw [f04.nrl 1046 0, l46]; omega) (fun s11 f11 r11 => ?_)⟩
      rw [f11.nrs 1006 0 (by decide), e6]
      refine hq1 qi hx s11 ((f04.mo (by decide)).tr (f11.mo (by decide))) (by rw [f11.nrs 1003 0 (by decide), f4.nrs 1003 0 (by decide), f2.nrs 1003 0 (by decide)]; exact v3) (by rw [f11.nrs 1001 0 (by decide), f4.nrs 1001 0 (by decide)]; exact r2) (fun k => ?_) (fun k => ?_)
      · rw [f11.nra 1047 0 _ (by decide), r4]
        split
        · rfl
        · rw [f02.nra 1047 0 _ (by decide)]
      · rw [r11]
        by_cases qk : 12 * i ≤ k ∧ k < 12 * i + (((rdT D 0).2.2.length : Nat) : Int)
        · rw [if_pos qk, if_pos qk, f4.nra 1004 0 _ (by decide), f2.nra 1004 0 _ (by decide), show (0 : Int) + (k - 12 * i) = (((k - 12 * i).toNat : Nat) : Int) by omega]
          exact v4 _ (by omega)
        · rw [if_neg qk, if_neg qk, f04.nra 1046 0 _ (by decide)]
    · rw [if_pos rfl]
      refine isin (fun w => absurd qi w) (fun _ => ?_)
      rw [if_pos (by decide)]
      exact fin0 s9 f9 (Or.inr hx) (by rw [if_pos qi]; exact v3)
end ZTp
