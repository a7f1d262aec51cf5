/-! A goal that is remembered is met: the class. -/
section ZAh
variable {n : Nat} {σ : jS} {P : zP} {s : zS} {path : List (Int × Int)}
theorem c_meet {Q : Int → jS → Prop} {me : Int} {j : Nat} (hn : 2 ≤ n) (hB : cB σ P s path) (h0 : nOk s) (m0 : 0 ≤ me) (m1 : me < rs σ 6000 1) (hj : j < (sM s).length) (hq : ∀ σ', sq [(7002, 0), (6001, 1)] σ σ' → cB σ' P (s.1, sM s, sA s, sMt s + 1, sC s, sTr s, sD s) path → ra σ' 6001 1 = upI (ra σ 6001 1) (me * 8 + 7) ((j : Nat) : Int) → Q ((memT (sM s) j).length : Nat) σ') : TrI n i_Search_meet [jo 7 0, ji ((j : Nat) : Int), ji me] σ Q := by
  have l02 := cln_at hB.1 7002 0 9 (by decide)
  obtain ⟨b1, b2, b3, b4, b5⟩ := hB.2.2.2.2.1
  obtain ⟨n1, n2, n3, n4, n5, n6, n7, n8, n9⟩ := h0
  refine wp_Search_meet ⟨by omega, by omega, by omega, by rw [b2]; exact ⟨by omega, by omega⟩, fun s5 e5 => ?_⟩
  have f5 : sq [(7002, 0)] σ s5 := by rw [e5]; exact (sq.rf _ σ).pwa 7002 0 _ _ (by decide)
  have r5 : ra s5 7002 0 = upI (ra σ 7002 0) 2 (ra σ 7002 0 2 + 1) := by
    rw [e5]
    unfold wa
    rw [raf_wA, if_pos ⟨rfl, rfl⟩]
  have B5 : cB s5 P (s.1, sM s, sA s, sMt s + 1, sC s, sTr s, sD s) path := cB_cut hB (f5.cq (l' := [(7002, 0)]) (by decide)) (by decide) (by decide) (by decide) (nofl3 (by decide)) (by
    unfold tly
    rw [r5]
    unfold upI
    refine ⟨?_, ?_, ?_, ?_, ?_⟩
    · rw [if_neg (by decide)]; exact b1
    · rw [if_pos rfl, b2]; rfl
    · rw [if_neg (by decide)]; exact b3
    · rw [if_neg (by decide)]; exact b4
    · rw [if_neg (by decide)]; exact b5) rfl (Int.le_refl _)
  have t76 := cC_at B5.2.1 7006 0 1 (by decide)
  obtain ⟨p0, p1, p2, p3⟩ := B5.2.2.2.2.2.2.2.1
  have hl2 : rl s5 6001 1 ≤ 200000 := by unfold gr3 at p3; omega
  rw [t76]
  refine ⟨by omega, by omega, c_nset (c := 7) (by omega) m0 (by rw [f5.nrs 6000 1 (by decide)]; exact m1) (by omega) p2 hl2 ?_⟩
  have f6 : sq [(6001, 1)] s5 (wa s5 6001 1 (me * 8 + ((7 : Nat) : Int)) ((j : Nat) : Int)) := (sq.rf _ s5).pwa 6001 1 _ _ (by decide)
  have r6 : ra (wa s5 6001 1 (me * 8 + ((7 : Nat) : Int)) ((j : Nat) : Int)) 6001 1 = upI (ra s5 6001 1) (me * 8 + 7) ((j : Nat) : Int) := by
    rw [show me * 8 + ((7 : Nat) : Int) = me * 8 + 7 by omega]
    unfold wa
    rw [raf_wA, if_pos ⟨rfl, rfl⟩]
  generalize wa s5 6001 1 (me * 8 + ((7 : Nat) : Int)) ((j : Nat) : Int) = s6 at f6 r6
  have B6 := cB_plan B5 (f6.mo (by decide)) (by rw [f6.nrs 6000 1 (by decide)]; exact p0) (by rw [f6.nrs 6000 1 (by decide)]; exact Int.le_refl _)
  have t71 := cC_at B6.2.1 7001 0 0 (by decide)
  have hM := B6.2.2.2.2.2.2.1
  obtain ⟨h1, h2, h3, -⟩ := hM
  obtain ⟨c1, c2, -⟩ := h3 j hj
  have l51 : rl s6 5001 0 = 40 := cln_at B6.1 5001 0 40 (by decide)
  have h2' : (sM s).length ≤ 40 := h2
  have hj40 : j < 40 := by omega
  have h1' : rs s6 5000 0 = ((sM s).length : Nat) := h1
  rw [t71]
  refine ⟨by omega, wp_Memory_nodesOf ?_⟩
  rw [if_neg (by omega), h1', if_neg (by omega), l51, c2]
  refine ⟨by omega, by omega, by omega, by omega, ?_⟩
  have em : memT (sM s) j = ((sM s)[j]).2.2 := by
    unfold memT
    rw [List.getElem?_eq_getElem hj]
    rfl
  have := hq s6 ((f5.mo (by decide)).tr (f6.mo (by decide))) B6 (by rw [r6, f5.nraf 6001 1 (by decide)])
  rw [em] at this
  exact this
end ZAh
