/-! A text is told: the reference, as a whole. -/
theorem gd_mem {α : Type} {l : List α} {d : α} {k : Nat} (h : k < l.length) : l.getD k d ∈ l := by
  rw [List.getD_eq_getElem?_getD, List.getElem?_eq_getElem h]
  exact List.getElem_mem _
section ZTt
variable {n : Nat} {σ0 σ σ1 : jS} {D : List Int}
set_option maxRecDepth 8000 in
theorem t_scopes {Q : Int → jS → Prop} (hn : 8 ≤ n) (hm : mln σ) (hD : mTp σ D)
    (hq1 : (rdTx D).1 = true → ∀ σ', sq tuF σ σ' → rs σ' 1003 0 = -1 → rs σ' 1001 0 = 0 → rs σ' 1015 0 = 0 → rs σ' 1016 0 = 0 → rs σ' 1051 0 = 0 → mTx σ' (txT (rdTx D).2.2) → mMem σ' [] → Q (tG (txT (rdTx D).2.2)) σ')
    (hq0 : (rdTx D).1 = false → ∀ σ', sq ((1001, 0) :: tsF) σ σ' → rs σ' 1003 0 = (((rdTx D).2.1 : Nat) : Int) → rs σ' 1001 0 = 0 → Q (-1) σ') : TrI n i_Model_scopes [jo 1 0] σ Q := by
  refine wp_Model_scopes ⟨by omega, by omega, t_readScopes (by omega) hm hD (fun hx s3 e3 v3 hN s5 e5 => ?_) (fun hx s3 e3 v3 s5 e5 => ?_)⟩
  · have f5 : sq [(1001, 0)] s3 s5 := by rw [e5]; exact (sq.rf _ s3).pws 1001 0 _ (by decide)
    have r5 : rs s5 1001 0 = 0 := by rw [e5, rs_ws, if_pos ⟨rfl, rfl⟩]
    clear e5
    rw [if_pos (by decide)]
    have hI : txI (rdTx D).2.2 := rdTx_ok.2 hx
    have hq1 := hq1 hx
    have hN5 : nTx s5 (rdTx D).2.2 [] := hN.sq f5 (by decide)
    clear hN
    revert hI hN5 hq1
    generalize (rdTx D).2.2 = X
    intro hI hq1 hN5
    have hI0 := hI
    have htok := txI_tok hI0
    obtain ⟨h1, h2, h3, h4, h5, h6⟩ := hN5
    obtain ⟨i1, i2, i3, i4, i5⟩ := hI
    have e05 : sq ((1001, 0) :: tsF) σ s5 := (e3.mo (by decide)).tr (f5.mo (by decide))
    have v5 : rs s5 1003 0 = -1 := by rw [f5.nrs 1003 0 (by decide)]; exact v3
    clear f5 e3 v3
    intro s6 e6 s7 e7 s8 e8 s9 e9
    have f6 : sq [(1013, 0)] s5 s6 := by rw [e6]; exact (sq.rf _ s5).pws 1013 0 _ (by decide)
    have r6 : rs s6 1013 0 = ((X.1.length : Nat) : Int) := by rw [e6, rs_ws, if_pos ⟨rfl, rfl⟩, h1]
    clear e6
    have f7 : sq [(1014, 0)] s6 s7 := by rw [e7]; exact (sq.rf _ s6).pws 1014 0 _ (by decide)
    have r7 : rs s7 1014 0 = ((X.2.2.length : Nat) : Int) := by rw [e7, rs_ws, if_pos ⟨rfl, rfl⟩, f6.nrs 1024 0 (by decide), h2]
    clear e7
    have f8 : sq [(1015, 0)] s7 s8 := by rw [e8]; exact (sq.rf _ s7).pws 1015 0 _ (by decide)
    have r8 : rs s8 1015 0 = 0 := by rw [e8, rs_ws, if_pos ⟨rfl, rfl⟩]
    clear e8
    have f9 : sq [(1016, 0)] s8 s9 := by rw [e9]; exact (sq.rf _ s8).pws 1016 0 _ (by decide)
    have r9 : rs s9 1016 0 = 0 := by rw [e9, rs_ws, if_pos ⟨rfl, rfl⟩]
    clear e9
    have f59 : sq [(1013, 0), (1014, 0), (1015, 0), (1016, 0)] s5 s9 := (((f6.mo (by decide)).tr (f7.mo (by decide))).tr (f8.mo (by decide))).tr (f9.mo (by decide))
    have e09 : sq tuF σ s9 := (e05.mo (by decide)).tr (f59.mo (by decide))
    have m9 := hm.sq e09
    have k13 : rs s9 1013 0 = ((X.1.length : Nat) : Int) := by rw [f9.nrs 1013 0 (by decide), f8.nrs 1013 0 (by decide), f7.nrs 1013 0 (by decide), r6]
    have k14 : rs s9 1014 0 = ((X.2.2.length : Nat) : Int) := by rw [f9.nrs 1014 0 (by decide), f8.nrs 1014 0 (by decide), r7]
    have k15 : rs s9 1015 0 = 0 := by rw [f9.nrs 1015 0 (by decide), r8]
    have l17 := mln_at m9 1017 8 (by decide)
    have l08 := mln_at m9 1008 8 (by decide)
    have l18 := mln_at m9 1018 24 (by decide)
    have l09 := mln_at m9 1009 24 (by decide)
    have l19 := mln_at m9 1019 24 (by decide)
    have l10 := mln_at m9 1010 24 (by decide)
    have l21 := mln_at m9 1021 120 (by decide)
    have l12 := mln_at m9 1012 120 (by decide)
    have l20 := mln_at m9 1020 1440 (by decide)
    have l11 := mln_at m9 1011 1440 (by decide)
    rw [l17, l08, k13]
    refine ⟨by omega, by omega, t_copy rfl rfl (by decide) (by decide) (by omega) (by rw [l17]; omega) (by omega) (by rw [l08]; omega) (by rw [l17]; omega) (by rw [l08]; omega) (fun s12 f12 r12 => ?_)⟩
    rw [f12.nrl 1018 0, f12.nrl 1009 0, l18, l09, f12.nrs 1014 0 (by decide), k14]
    refine ⟨by omega, by omega, t_copy rfl rfl (by decide) (by decide) (by omega) (by rw [f12.nrl 1018 0, l18]; omega) (by omega) (by rw [f12.nrl 1009 0, l09]; omega) (by rw [f12.nrl 1018 0, l18]; omega) (by rw [f12.nrl 1009 0, l09]; omega) (fun s16 f16 r16 => ?_)⟩
    have g16 : sq [(1008, 0), (1009, 0)] s9 s16 := (f12.mo (by decide)).tr (f16.mo (by decide))
    rw [g16.nrl 1019 0, g16.nrl 1010 0, l19, l10, g16.nrs 1014 0 (by decide), k14]
    refine ⟨by omega, by omega, t_copy rfl rfl (by decide) (by decide) (by omega) (by rw [g16.nrl 1019 0, l19]; omega) (by omega) (by rw [g16.nrl 1010 0, l10]; omega) (by rw [g16.nrl 1019 0, l19]; omega) (by rw [g16.nrl 1010 0, l10]; omega) (fun s20 f20 r20 => ?_)⟩
    have g20 : sq [(1008, 0), (1009, 0), (1010, 0)] s9 s20 := (g16.mo (by decide)).tr (f20.mo (by decide))
    rw [g20.nrl 1021 0, g20.nrl 1012 0, l21, l12, g20.nrs 1014 0 (by decide), k14, show 5 * ((X.2.2.length : Nat) : Int) = ((5 * X.2.2.length : Nat) : Int) by omega]
    refine ⟨by omega, ⟨by omega, by omega⟩, by omega, t_copy rfl rfl (by decide) (by decide) (by omega) (by rw [g20.nrl 1021 0, l21]; omega) (by omega) (by rw [g20.nrl 1012 0, l12]; omega) (by rw [g20.nrl 1021 0, l21]; omega) (by rw [g20.nrl 1012 0, l12]; omega) (fun s25 f25 r25 => ?_)⟩
    have g25 : sq [(1008, 0), (1009, 0), (1010, 0), (1012, 0)] s9 s25 := (g20.mo (by decide)).tr (f25.mo (by decide))
    rw [g25.nrl 1020 0, g25.nrl 1011 0, l20, l11, g25.nrs 1014 0 (by decide), k14, show 60 * ((X.2.2.length : Nat) : Int) = ((60 * X.2.2.length : Nat) : Int) by omega]
    refine ⟨by omega, ⟨by omega, by omega⟩, by omega, t_copy rfl rfl (by decide) (by decide) (by omega) (by rw [g25.nrl 1020 0, l20]; omega) (by omega) (by rw [g25.nrl 1011 0, l11]; omega) (by rw [g25.nrl 1020 0, l20]; omega) (by rw [g25.nrl 1011 0, l11]; omega) (fun s30 f30 r30 => ?_)⟩
    have g30 : sq [(1008, 0), (1009, 0), (1010, 0), (1011, 0), (1012, 0)] s9 s30 := (g25.mo (by decide)).tr (f30.mo (by decide))
    have g530 : sq [(1008, 0), (1009, 0), (1010, 0), (1011, 0), (1012, 0), (1013, 0), (1014, 0), (1015, 0), (1016, 0)] s5 s30 := (f59.mo (by decide)).tr (g30.mo (by decide))
    have hc : mTc s30 (txT X) := by
      refine ⟨by rw [g30.nrs 1013 0 (by decide)]; exact k13, by rw [g30.nrs 1014 0 (by decide)]; exact k14, fun k k0 k1 => ?_, fun g g0 g1 => ?_⟩
      · have k1 : k < ((X.1.length : Nat) : Int) := k1
        rw [f30.nra 1008 0 _ (by decide), f25.nra 1008 0 _ (by decide), f20.nra 1008 0 _ (by decide), f16.nra 1008 0 _ (by decide), r12, if_pos (by omega), show (0 : Int) + (k - 0) = ((k.toNat : Nat) : Int) by omega, f59.nra 1017 0 _ (by decide)]
        exact h4 k.toNat (by omega)
      · have g1 : g < ((X.2.2.length : Nat) : Int) := g1
        obtain ⟨a1, a2, a3⟩ := h5 g.toNat (by omega)
        have hmem : X.2.2.getD g.toNat (0, []) ∈ X.2.2 := gd_mem (by omega)
        obtain ⟨-, b2, b3⟩ := i5 _ hmem
        refine ⟨?_, ?_, fun i hi => ?_⟩
        · rw [f30.nra 1009 0 _ (by decide), f25.nra 1009 0 _ (by decide), f20.nra 1009 0 _ (by decide), r16, if_pos (by omega), f12.nra 1018 0 _ (by decide), show (0 : Int) + (g - 0) = ((g.toNat : Nat) : Int) by omega, f59.nra 1018 0 _ (by decide)]
          exact a1
        · rw [f30.nra 1010 0 _ (by decide), f25.nra 1010 0 _ (by decide), r20, if_pos (by omega), g16.nra 1019 0 _ (by decide), show (0 : Int) + (g - 0) = ((g.toNat : Nat) : Int) by omega, f59.nra 1019 0 _ (by decide)]
          exact a2
        · have hi : ((i : Nat) : Int) ≤ (((X.2.2.getD g.toNat (0, [])).2.length : Nat) : Int) - 1 := hi
          obtain ⟨c1, c2⟩ := a3 i (by omega)
          have hk : rwk ((X.2.2.getD g.toNat (0, [])).2.getD i []) := b3 _ (gd_mem (by omega))
          have h12 := hk.2.2
          refine ⟨?_, fun p hp => ?_⟩
          · rw [f30.nra 1012 0 _ (by decide), r25, if_pos (by omega), g20.nra 1021 0 _ (by decide), show (0 : Int) + (5 * g + ((i : Nat) : Int) - 0) = 5 * ((g.toNat : Nat) : Int) + ((i : Nat) : Int) by omega, f59.nra 1021 0 _ (by decide)]
            exact c1
          · have hp : p < ((X.2.2.getD g.toNat (0, [])).2.getD i []).length := hp
            rw [r30, if_pos (by omega), g25.nra 1020 0 _ (by decide), show (0 : Int) + (12 * (5 * g + ((i : Nat) : Int)) + ((p : Nat) : Int) - 0) = 12 * (5 * ((g.toNat : Nat) : Int) + ((i : Nat) : Int)) + ((p : Nat) : Int) by omega, f59.nra 1020 0 _ (by decide)]
            exact c2 p hp
    have e030 : sq tuF σ s30 := e09.tr (g30.mo (by decide))
    refine t_specials (by omega) (hm.sq e030) hc htok (fun s' e' hT hM r51 => ?_)
    exact hq1 s' (e030.tr (e'.mo (by decide))) (by rw [e'.nrs 1003 0 (by decide), g530.nrs 1003 0 (by decide)]; exact v5) (by rw [e'.nrs 1001 0 (by decide), g530.nrs 1001 0 (by decide)]; exact r5) (by rw [e'.nrs 1015 0 (by decide), g30.nrs 1015 0 (by decide)]; exact k15) (by rw [e'.nrs 1016 0 (by decide), g30.nrs 1016 0 (by decide)]; exact r9) r51 hT hM
  · have f5 : sq [(1001, 0)] s3 s5 := by rw [e5]; exact (sq.rf _ s3).pws 1001 0 _ (by decide)
    have r5 : rs s5 1001 0 = 0 := by rw [e5, rs_ws, if_pos ⟨rfl, rfl⟩]
    rw [if_neg (by decide)]
    exact hq0 hx s5 ((e3.mo (by decide)).tr (f5.mo (by decide))) (by rw [f5.nrs 1003 0 (by decide)]; exact v3) r5
end ZTt
