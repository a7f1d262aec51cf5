/-! A goal is asked: the class, as a whole. -/
/-- what a call may change, where objects may be made -/
def kq (Fp : Nat → Int → Prop) (σ σ' : jS) : Prop := gq Fp σ σ' ∧ (∀ c, ¬ c = 0 → rk σ' c = rk σ c) ∧ rk σ 0 ≤ rk σ' 0 ∧
  (rz σ' + 2 * lens σ + 102 * rk σ 0 ≤ rz σ + 2 * lens σ' + 102 * rk σ' 0 ∧ rc σ' + lens σ + 2 * rk σ 0 ≤ rc σ + lens σ' + 2 * rk σ' 0 ∧ lens σ ≤ lens σ') ∧ (jnG σ → jnG σ')
def asL : List (Nat × Int) := [(0, 0), (1, 0), (8001, 0), (8003, 0), (8000, 0), (12008, 0), (0, 245), (1, 245), (12015, 0)] ++ kpF9
def asF (F : Nat) (o : Int) : Prop := rFp F o ∨ (F, o) ∈ asL
section ZAk
variable {n : Nat} {σ0 σ σ1 σ2 : jS} {T : zT} {M : zM} {D : List Int} {k O U : Int} {Fp Fq : Nat → Int → Prop}
theorem kq.rf (Fp : Nat → Int → Prop) (σ : jS) : kq Fp σ σ := ⟨fun _ _ _ _ => ⟨rfl, fun _ => rfl, rfl⟩, fun _ _ => rfl, Int.le_refl _, ⟨Int.le_refl _, Int.le_refl _, Int.le_refl _⟩, fun h => h⟩
theorem kq.tr (h : kq Fp σ σ1) (h' : kq Fp σ1 σ2) : kq Fp σ σ2 := by
  obtain ⟨a1, a2, a3, ⟨a4, a5, a6⟩, a7⟩ := h
  obtain ⟨b1, b2, b3, ⟨b4, b5, b6⟩, b7⟩ := h'
  exact ⟨a1.tr b1, fun c hc => (b2 c hc).trans (a2 c hc), by omega, ⟨by omega, by omega, by omega⟩, fun q => b7 (a7 q)⟩
theorem kq.mo (h : kq Fp σ σ1) (hF : ∀ F o, Fp F o → Fq F o) : kq Fq σ σ1 := ⟨h.1.mo hF, h.2⟩
theorem rq_kq (h : rq σ σ1) (hF : ∀ F o, rFp F o → Fp F o) : kq Fp σ σ1 := ⟨fun F o q q2 => h.1 F o q (fun w => q2 (hF _ _ w)), h.2.1, h.2.2.1, h.2.2.2.1, h.2.2.2.2.1⟩
theorem cq_kq {l : List (Nat × Int)} (h : cq l σ σ1) (hl : ∀ p, p ∈ l → Fp p.1 p.2) : kq Fp σ σ1 := by
  have h1 := h.1
  obtain ⟨-, c2, ⟨c3, c4, c5⟩, c6, c7⟩ := h
  refine ⟨fun F o q q2 => h1 F o q (fun w => q2 (hl _ w)), fun c _ => c2 c, by rw [c2]; exact Int.le_refl _, ⟨?_, ?_, c5⟩, c7⟩
  · rw [c2]; omega
  · rw [c2]; omega
theorem sq_kq {l : List (Nat × Int)} (h : sq l σ σ1) (hs : (l.all (fun p => decide (p.1 < 900000))) = true) (hl : ∀ p, p ∈ l → Fp p.1 p.2) : kq Fp σ σ1 := cq_kq (h.cq (by
  first | exact hs | simpa using hs)) hl
set_option maxRecDepth 8000 in
theorem c_ask {Q : Int → jS → Prop} (hn : n = 127) (hZ : cZ σ T M) (hD : cTp σ D) (hM : gdM T M) (hO : rs σ 12009 0 = O) (hU : rs σ 12010 0 = U) (g61 : gr3 (rl σ 6001 2)) (g31 : 1 ≤ rl σ 3001 1)
    (hq0 : (¬ (0 ≤ k ∧ k < tS T) ∨ rdW D = false) → ∀ σ', sq [(0, 0), (1, 0), (8001, 0), (8003, 0), (8000, 0), (12008, 0)] σ σ' → rs σ' 12008 0 = (if 0 ≤ k ∧ k < tS T then (((rdT D 0).2.1 : Nat) : Int) else -1) → rs σ' 8000 0 = 0 → Q (-2) σ')
    (hq1 : 0 ≤ k ∧ k < tS T → rdW D = true → ∀ σ', kq asF σ σ' → cZ σ' T (sM (askW (T, O, U, k, true) M (rdT D 0).2.2).1) → rs σ' 12008 0 = -1 → rs σ' 8000 0 = 0 → fT σ' 245 (rdT D 0).2.2 → rs σ' 12015 0 = k → (∀ i : Nat, i < 9 → ra σ' 12011 0 ((i : Nat) : Int) = (tlW (endE (askW (T, O, U, k, true) M (rdT D 0).2.2)) (askW (T, O, U, k, true) M (rdT D 0).2.2).1 (askT (T, O, U, k, true) M (rdT D 0).2.2)).getD i 0) → cTr σ' (askT (T, O, U, k, true) M (rdT D 0).2.2) → (askT (T, O, U, k, true) M (rdT D 0).2.2 = [] ∨ trK (askT (T, O, U, k, true) M (rdT D 0).2.2)) → (endE (askW (T, O, U, k, true) M (rdT D 0).2.2) = 0 → trK (askT (T, O, U, k, true) M (rdT D 0).2.2)) → ((askW (T, O, U, k, true) M (rdT D 0).2.2).2.1 = 2 → rs σ' 12016 0 = (askW (T, O, U, k, true) M (rdT D 0).2.2).2.2.2.1 ∧ rs σ' 12017 0 = (askW (T, O, U, k, true) M (rdT D 0).2.2).2.2.2.2.1 ∧ fT σ' 246 (askW (T, O, U, k, true) M (rdT D 0).2.2).2.2.2.2.2) → Q (endE (askW (T, O, U, k, true) M (rdT D 0).2.2)) σ') : TrI n i_Top_ask [jo 12 0, ji k] σ Q := by
  have hZ0 := hZ
  obtain ⟨z1, z2, z3, z4, z5, z6, z7⟩ := hZ
  have z30 := z3
  obtain ⟨p1, tx, p2, p3, p4, p5, p6, p7, p8, p9⟩ := z3
  have lF0 := z2.2.1 (0, 12) (by decide)
  have t120 := cC_at z2 12000 0 0 (by decide)
  have t122 := cC_at z2 12002 0 0 (by decide)
  refine wp_Top_ask ⟨by omega, by omega, by omega, ?_⟩
  rw [p4]
  refine c_hasScope (by omega) p5 p1 ?_
  by_cases qk : 0 ≤ k ∧ k < tS T
  · rw [show (if 0 ≤ k ∧ k < tS T then (1 : Int) else 0) = 1 from if_pos qk, if_neg (by decide), t120, t122]
    refine ⟨by omega, c_readWhole (o := 0) (by omega) z1 hD (by omega) lF0 (fun hx s6 f6 hf => ?_) (fun hx s6 f6 v1 => ?_)⟩
    · have f6 : sq [(0, 0), (1, 0), (8001, 0), (8003, 0)] σ s6 := f6.mo (by unfold tyF; decide)
      rw [if_neg (by decide), if_neg (by decide)]
      have hq1 := hq1 qk hx
      have hrw := (rdW_rw hx).1
      have h12 := hrw.2.2
      revert hq1 hrw h12 hf
      generalize (rdT D 0).2.2 = r
      intro hf hq1 hrw h12
      intro s8 e8
      have f8 : sq [(12008, 0)] s6 s8 := by rw [e8]; exact (sq.rf _ s6).pws 12008 0 _ (by decide)
      have r8 : rs s8 12008 0 = -1 := by rw [e8, rs_ws, if_pos ⟨rfl, rfl⟩]
      clear e8
      rw [f8.nrs 12000 0 (by decide), f6.nrs 12000 0 (by decide), t120]
      refine ⟨by omega, fun s10 e10 => ?_⟩
      have f10 : sq [(8000, 0)] s8 s10 := by rw [e10]; exact (sq.rf _ s8).pws 8000 0 _ (by decide)
      have r10 : rs s10 8000 0 = 0 := by rw [e10, rs_ws, if_pos ⟨rfl, rfl⟩]
      clear e10
      have f610 : sq [(12008, 0), (8000, 0)] s6 s10 := (f8.mo (by decide)).tr (f10.mo (by decide))
      have f010 : sq [(0, 0), (1, 0), (8001, 0), (8003, 0), (12008, 0), (8000, 0)] σ s10 := (f6.mo (by decide)).tr (f610.mo (by decide))
      have C10 : cC s10 := z2.fq (sq_r1 f010) (by decide)
      have l245 := C10.2.1 (245, 12) (by decide)
      have l0 := C10.2.1 (0, 12) (by decide)
      dsimp only at l245 l0
      have hf10 : fT s10 0 r := hf.sq f610 (by decide)
      rw [cC_at C10 12012 0 245 (by decide), cC_at C10 12002 0 0 (by decide)]
      refine ⟨by omega, c_take (by omega) (by omega) (by omega) (by omega) (by omega) (by omega) (by omega) (fun s13 f13 v13 a13 s15 e15 => ?_)⟩
      have f15 : sq [(12015, 0)] s13 s15 := by rw [e15]; exact (sq.rf _ s13).pws 12015 0 _ (by decide)
      have r15 : rs s15 12015 0 = k := by rw [e15, rs_ws, if_pos ⟨rfl, rfl⟩]
      clear e15
      have f015 : sq [(0, 0), (1, 0), (8001, 0), (8003, 0), (12008, 0), (8000, 0), (0, 245), (1, 245), (12015, 0)] σ s15 := ((f010.mo (by decide)).tr (f13.mo (by decide))).tr (f15.mo (by decide))
      have hf15 : fT s15 245 r := by
        refine ⟨by omega, ?_, ?_, fun j hj => ?_⟩
        · rw [f15.nrs 1 245 (by decide), v13]; exact hf10.2.1
        · rw [f15.nrl 0 245, f13.nrl 0 245, l245]; omega
        · rw [f15.nra 0 245 _ (by decide), a13 ((j : Nat) : Int) (by omega) (by rw [hf10.2.1]; omega) (by omega) (by omega)]
          exact hf10.2.2.2 j hj
      have Z15 : cZ s15 T M := hZ0.fq (sq_r1 f015) (by decide) (fun o ho => by
        refine ⟨?_, ?_⟩
        · simp
          omega
        · simp
          omega)
      rw [cC_at Z15.2.1 12007 0 0 (by decide), cC_at Z15.2.1 12012 0 245 (by decide), f015.nrs 12009 0 (by decide), f015.nrs 12010 0 (by decide), hO, hU]
      refine ⟨by omega, c_run (P := (T, O, U, k, true)) (M := M) (by omega) Z15 qk rfl hrw hf15 (fun σa σ1 σ' ra1 ra2 ra3 ra4 ra5 ra6 ra7 ra8 => ?_)⟩
      have nr1 : ∀ F : Nat, ∀ o : Int, F < 900000 → ¬ rFp F o → rs σ' F o = rs s15 F o ∧ (∀ i, ra σ' F o i = ra s15 F o i) ∧ rl σ' F o = rl s15 F o := ra7.1
      refine c_keepAsking (P := (T, O, U, k, true)) (M := M) (by omega) hM hrw ra3 ra2 ra4 ra5 ra6 ra8 (by rw [(nr1 6001 2 (by decide) (by unfold rFp askFp; omega)).2.2, f015.nrl 6001 2]; exact g61) (by rw [(nr1 3001 1 (by decide) (by unfold rFp askFp; omega)).2.2, f015.nrl 3001 1]; exact g31) (fun s33 k33 Z33 a33 tr33 w33 w34 b33 => ?_)
      have l11 := cln_at Z33.1 12011 0 9 (by decide)
      rw [l11]
      have v0 : ra s33 12011 0 0 = endE (askW (T, O, U, k, true) M r) := a33 0 (by omega)
      rw [v0]
      have K15 : kq asF σ s15 := sq_kq f015 (by decide) (fun p hp => Or.inr ((List.mem_append.mpr (Or.inl ((show ∀ p, p ∈ ([(0, 0), (1, 0), (8001, 0), (8003, 0), (12008, 0), (8000, 0), (0, 245), (1, 245), (12015, 0)] : List (Nat × Int)) → p ∈ ([(0, 0), (1, 0), (8001, 0), (8003, 0), (8000, 0), (12008, 0), (0, 245), (1, 245), (12015, 0)] : List (Nat × Int)) by decide) p hp)))))
      have K33 : kq asF σ s33 := (K15.tr (rq_kq ra7 (fun _ _ w => Or.inl w))).tr (cq_kq k33 (fun p hp => Or.inr (List.mem_append.mpr (Or.inr hp))))
      have nk : ∀ F o, F < 900000 → ¬ rFp F o → kpF9.contains (F, o) = false → (decide ((F, o) ∉ lenT) = true) → rs s33 F o = rs s15 F o := fun F o h1 h2 h3 h4 => by
        rw [k33.nrs F o h1 h3, (nr1 F o h1 h2).1]
      refine ⟨by omega, by omega, hq1 s33 K33 Z33 ?_ ?_ ?_ ?_ a33 tr33 w33 w34 b33⟩
      · rw [nk 12008 0 (by decide) (by unfold rFp askFp; omega) (by decide) (by decide), f15.nrs 12008 0 (by decide), f13.nrs 12008 0 (by decide), f10.nrs 12008 0 (by decide)]; exact r8
      · rw [nk 8000 0 (by decide) (by unfold rFp askFp; omega) (by decide) (by decide), f15.nrs 8000 0 (by decide), f13.nrs 8000 0 (by decide)]; exact r10
      · have n0 := nr1 0 245 (by decide) (by unfold rFp askFp; omega)
        have n1 := nr1 1 245 (by decide) (by unfold rFp askFp; omega)
        refine ⟨by omega, ?_, ?_, fun j hj => ?_⟩
        · rw [k33.nrs 1 245 (by decide) (by decide), n1.1]; exact hf15.2.1
        · rw [k33.nrl 0 245 (by decide) (by decide), n0.2.2]; exact hf15.2.2.1
        · rw [k33.nraf 0 245 (by decide) (by decide), n0.2.1]; exact hf15.2.2.2 j hj
      · rw [nk 12015 0 (by decide) (by unfold rFp askFp; omega) (by decide) (by decide)]; exact r15
    · have f6 : sq [(0, 0), (1, 0), (8001, 0), (8003, 0)] σ s6 := f6.mo (by unfold tyF; decide)
      rw [if_pos rfl]
      refine wp_Top_ask_31 ⟨by omega, ?_⟩
      rw [if_neg (by decide), f6.nrs 12000 0 (by decide), t120, v1]
      refine ⟨by omega, fun s8 e8 => ?_⟩
      have f8 : sq [(12008, 0)] s6 s8 := by rw [e8]; exact (sq.rf _ s6).pws 12008 0 _ (by decide)
      have r8 : rs s8 12008 0 = (((rdT D 0).2.1 : Nat) : Int) := by rw [e8, rs_ws, if_pos ⟨rfl, rfl⟩]
      clear e8
      rw [f8.nrs 12000 0 (by decide), f6.nrs 12000 0 (by decide), t120]
      refine ⟨by omega, fun s10 e10 => ?_⟩
      have f10 : sq [(8000, 0)] s8 s10 := by rw [e10]; exact (sq.rf _ s8).pws 8000 0 _ (by decide)
      have r10 : rs s10 8000 0 = 0 := by rw [e10, rs_ws, if_pos ⟨rfl, rfl⟩]
      clear e10
      exact hq0 (Or.inr hx) s10 (((f6.mo (by decide)).tr (f8.mo (by decide))).tr (f10.mo (by decide))) (by rw [f10.nrs 12008 0 (by decide), if_pos qk]; exact r8) r10
  · rw [show (if 0 ≤ k ∧ k < tS T then (1 : Int) else 0) = 0 from if_neg qk, if_pos rfl]
    refine wp_Top_ask_31 ⟨by omega, ?_⟩
    rw [if_pos rfl]
    intro s2 e2
    have f2 : sq [(12008, 0)] σ s2 := by rw [e2]; exact (sq.rf _ σ).pws 12008 0 _ (by decide)
    have r2 : rs s2 12008 0 = -1 := by rw [e2, rs_ws, if_pos ⟨rfl, rfl⟩]
    clear e2
    rw [f2.nrs 12000 0 (by decide), t120]
    refine ⟨by omega, fun s4 e4 => ?_⟩
    have f4 : sq [(8000, 0)] s2 s4 := by rw [e4]; exact (sq.rf _ s2).pws 8000 0 _ (by decide)
    have r4 : rs s4 8000 0 = 0 := by rw [e4, rs_ws, if_pos ⟨rfl, rfl⟩]
    clear e4
    exact hq0 (Or.inl qk) s4 ((f2.mo (by decide)).tr (f4.mo (by decide))) (by rw [f4.nrs 12008 0 (by decide), if_neg qk]; exact r2) r4
end ZAk
