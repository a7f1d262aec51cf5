/-! A text is told: the reference. -/
def tuF : List (Nat × Int) := [(1001, 0), (1002, 0), (1003, 0), (1004, 0), (1005, 0), (1006, 0), (1007, 0), (1008, 0), (1009, 0), (1010, 0), (1011, 0), (1012, 0), (1013, 0), (1014, 0), (1015, 0), (1016, 0), (1017, 0), (1018, 0), (1019, 0), (1020, 0), (1021, 0), (1022, 0), (1023, 0), (1024, 0), (1025, 0), (1026, 0), (1027, 0), (1051, 0), (1063, 0), (1065, 0), (1070, 0)]
/-- what is copied of a text -/
def mTc (σ : jS) (T : zT) : Prop := rs σ 1013 0 = tS T ∧ rs σ 1014 0 = tG T ∧ (∀ k, 0 ≤ k → k < tS T → ra σ 1008 0 k = tA T k) ∧ (∀ g, 0 ≤ g → g < tG T → ra σ 1009 0 g = tH T g ∧ ra σ 1010 0 g = tN T g ∧ ∀ i : Nat, i ≤ tN T g → ra σ 1012 0 (5 * g + i) = ((tR T g i).length : Nat) ∧ ∀ p : Nat, p < (tR T g i).length → ra σ 1011 0 (12 * (5 * g + i) + p) = (tR T g i).getD p 0)
section ZTs
variable {n : Nat} {σ0 σ σ1 : jS} {D : List Int} {T : zT}
theorem mTc.sq {l : List (Nat × Int)} (h : mTc σ T) (e : sq l σ σ1) (hl : (([(1008, 0), (1009, 0), (1010, 0), (1011, 0), (1012, 0), (1013, 0), (1014, 0)] : List (Nat × Int)).all (fun p => !l.contains p)) = true) : mTc σ1 T := by
  have hm : ∀ p, p ∈ ([(1008, 0), (1009, 0), (1010, 0), (1011, 0), (1012, 0), (1013, 0), (1014, 0)] : List (Nat × Int)) → l.contains p = false := fun p hp => by
    have := List.all_eq_true.mp hl p hp
    simpa using this
  unfold mTc
  rw [e.nrs 1013 0 (hm _ (by decide)), e.nrs 1014 0 (hm _ (by decide)), e.nraf 1008 0 (hm _ (by decide)), e.nraf 1009 0 (hm _ (by decide)), e.nraf 1010 0 (hm _ (by decide)), e.nraf 1011 0 (hm _ (by decide)), e.nraf 1012 0 (hm _ (by decide))]
  exact h
/-- one given one's type against another's, in the text -/
theorem t_isPut {Q : Int → jS → Prop} {i j L : Int} (hn : 4 ≤ n) (hm : mln σ) (hT : mTc σ T) (ht : tok T) (i0 : 0 ≤ i) (i1 : i < tG T) (j0 : 0 ≤ j) (j1 : j < tG T)
    (hq : ∀ v σ', sq [(1027, 0)] σ σ' → (v = 0 ∨ v = 1) → (v = 1 ↔ becm (tR T j 0) (tR T i 0)) → Q v σ') : TrI n i_Model_isPut [jo 1 0, ji (60 * i), ji L, ji (60 * j), ji (ra σ 1012 0 (5 * j))] σ Q := by
  have l11 := mln_at hm 1011 1440 (by decide)
  obtain ⟨t1, t2, t3, t4, t5, t6⟩ := ht
  obtain ⟨m1, m2, m3, m4⟩ := hT
  have hrow : ∀ g, 0 ≤ g → g < tG T → rwA σ 1011 (60 * g) (tR T g 0) ∧ rwk (tR T g 0) ∧ ra σ 1012 0 (5 * g) = (((tR T g 0).length : Nat) : Int) := fun g g0 g1 => by
    obtain ⟨a1, a2, a3, a4, a5⟩ := t6 g g0 g1
    have hk := a5 0 (by omega)
    obtain ⟨-, -, b3⟩ := m4 g g0 g1
    obtain ⟨b4, b5⟩ := b3 0 (by omega)
    have h12 := hk.2.2
    refine ⟨⟨by omega, by rw [l11]; omega, fun p hp => ?_⟩, hk, ?_⟩
    · have := b5 p hp
      rw [show 12 * (5 * g + ((0 : Nat) : Int)) + ((p : Nat) : Int) = 60 * g + ((p : Nat) : Int) by omega] at this
      exact this
    · rw [show 5 * g + ((0 : Nat) : Int) = 5 * g by omega] at b4
      exact b4
  obtain ⟨ai, bi, ci⟩ := hrow i i0 i1
  obtain ⟨aj, bj, cj⟩ := hrow j j0 j1
  refine wp_Model_isPut ⟨by omega, by rw [l11]; omega, by omega, ?_⟩
  rw [cj]
  exact t_isPutIn (by omega) hm rfl rfl (by decide) rfl rfl (by decide) (by rw [l11]; omega) (by rw [l11]; omega) ai aj bi bj (fun v σ' e h1 h2 => ⟨h1, hq v σ' e h1 h2⟩)
/-- every given one against every other -/
theorem t_specials {Q : Int → jS → Prop} (hn : 5 ≤ n) (hm : mln σ) (hT : mTc σ T) (ht : tok T)
    (hq : ∀ σ', sq [(1026, 0), (1027, 0), (1051, 0), (1063, 0), (1065, 0), (1070, 0)] σ σ' → mTx σ' T → mMem σ' [] → rs σ' 1051 0 = 0 → Q (tG T) σ') : J n c_Model_scopes (some .int) 134 [some (jo 1 0), none, some (ji 0), none] [] σ (qI Q) := by
  have l12 := mln_at hm 1012 120 (by decide)
  have l26 := mln_at hm 1026 576 (by decide)
  have tg0 := ht.2.2.1
  have tg1 := ht.2.2.2.1
  have put : ∀ (s2 : jS) (i j : Int) (hi0 : 0 ≤ i) (hi1 : i < tG T) (hj0 : 0 ≤ j) (hj1 : j < tG T) (b : Int), (b = 1 ∧ spc T i j ∨ b = 0 ∧ ¬ spc T i j) → (∀ a c, 0 ≤ a → a < tG T → 0 ≤ c → c < tG T → (a < i ∨ a = i ∧ c < j) → (ra s2 1026 0 (24 * a + c) = 1 ∧ spc T a c) ∨ (ra s2 1026 0 (24 * a + c) = 0 ∧ ¬ spc T a c)) → ∀ s3, s3 = wa s2 1026 0 (24 * i + j) b → (∀ a c, 0 ≤ a → a < tG T → 0 ≤ c → c < tG T → (a < i ∨ a = i ∧ c < j + 1) → (ra s3 1026 0 (24 * a + c) = 1 ∧ spc T a c) ∨ (ra s3 1026 0 (24 * a + c) = 0 ∧ ¬ spc T a c)) := by
    intro s2 i j hi0 hi1 hj0 hj1 b hb h s3 e3 a c a0 a1 c0 c1 hac
    have r3 : ∀ k : Int, ra s3 1026 0 k = if k = 24 * i + j then b else ra s2 1026 0 k := fun k => by
      rw [e3]
      unfold wa
      rw [raf_wA, if_pos ⟨rfl, rfl⟩]
      rfl
    by_cases q : a = i ∧ c = j
    · rw [r3, if_pos (by omega), q.1, q.2]
      exact hb
    · rw [r3, if_neg (by omega)]
      exact h a c a0 a1 c0 c1 (by omega)
  have inner : ∀ (d : Nat) (i j : Int) (s2 : jS), j + ((d : Nat) : Int) = tG T → 0 ≤ i → i < tG T → 0 ≤ j → sq [(1026, 0), (1027, 0)] σ s2 → (∀ a c, 0 ≤ a → a < tG T → 0 ≤ c → c < tG T → (a < i ∨ a = i ∧ c < j) → (ra s2 1026 0 (24 * a + c) = 1 ∧ spc T a c) ∨ (ra s2 1026 0 (24 * a + c) = 0 ∧ ¬ spc T a c)) → (∀ s3, sq [(1026, 0), (1027, 0)] σ s3 → (∀ a c, 0 ≤ a → a < tG T → 0 ≤ c → c < tG T → a < i + 1 → (ra s3 1026 0 (24 * a + c) = 1 ∧ spc T a c) ∨ (ra s3 1026 0 (24 * a + c) = 0 ∧ ¬ spc T a c)) → J n c_Model_scopes (some .int) 134 [some (jo 1 0), none, some (ji (i + 1)), none] [] s3 (qI Q)) → J n c_Model_scopes (some .int) 144 [some (jo 1 0), none, some (ji i), some (ji j)] [] s2 (qI Q) := by
    intro d
    induction d with
    | zero =>
      intro i j s2 hd i0 i1 j0 e2 hS hL
      have h14 : rs s2 1014 0 = tG T := by rw [e2.nrs 1014 0 (by decide)]; exact hT.2.1
      refine wp_Model_scopes_144 ⟨by omega, ?_⟩
      rw [if_pos (by omega)]
      exact ⟨⟨by omega, by omega⟩, hL s2 e2 (fun a c a0 a1 c0 c1 h => hS a c a0 a1 c0 c1 (by omega))⟩
    | succ d ih =>
      intro i j s2 hd i0 i1 j0 e2 hS hL
      have j1 : j < tG T := by omega
      have h14 : rs s2 1014 0 = tG T := by rw [e2.nrs 1014 0 (by decide)]; exact hT.2.1
      have m2 : mln s2 := hm.sq e2
      have T2 : mTc s2 T := hT.sq e2 (by decide)
      refine wp_Model_scopes_144 ⟨by omega, ?_⟩
      rw [if_neg (by omega), e2.nrl 1026 0, e2.nrl 1012 0, l26, l12]
      refine ⟨by omega, ⟨by omega, by omega⟩, ⟨by omega, by omega⟩, ⟨by omega, by omega⟩, by omega, ⟨by omega, by omega⟩, by omega, by omega, ⟨by omega, by omega⟩, ⟨by omega, by omega⟩, by omega, by omega, by omega, t_isPut (by omega) m2 T2 ht i0 i1 j0 j1 (fun v s4 e4 hv hvi => ?_)⟩
      have e24 : sq [(1026, 0), (1027, 0)] σ s4 := e2.tr (e4.mo (by decide))
      have S4 : (∀ a c, 0 ≤ a → a < tG T → 0 ≤ c → c < tG T → (a < i ∨ a = i ∧ c < j) → (ra s4 1026 0 (24 * a + c) = 1 ∧ spc T a c) ∨ (ra s4 1026 0 (24 * a + c) = 0 ∧ ¬ spc T a c)) := by
        rw [e4.nraf 1026 0 (by decide)]; exact hS
      by_cases qv : v = 0
      · rw [if_pos qv, e24.nrl 1026 0, l26]
        refine ⟨by omega, by omega, fun s5 e5 => ?_⟩
        have f5 : sq [(1026, 0)] s4 s5 := by rw [e5]; exact (sq.rf _ s4).pwa 1026 0 _ _ (by decide)
        exact ⟨⟨by omega, by omega⟩, ih i (j + 1) s5 (by omega) i0 i1 (by omega) (e24.tr (f5.mo (by decide))) (put s4 i j i0 i1 j0 j1 0 (Or.inr ⟨rfl, fun w => (by have := hvi.mpr w.1; omega)⟩) S4 s5 e5) hL⟩
      · rw [if_neg qv, e24.nrl 1012 0, l12]
        refine ⟨by omega, by omega, by omega, t_isPut (by omega) (hm.sq e24) (hT.sq e24 (by decide)) ht j0 j1 i0 i1 (fun u s6 e6 hu hui => ?_)⟩
        have e26 : sq [(1026, 0), (1027, 0)] σ s6 := e24.tr (e6.mo (by decide))
        have S6 : (∀ a c, 0 ≤ a → a < tG T → 0 ≤ c → c < tG T → (a < i ∨ a = i ∧ c < j) → (ra s6 1026 0 (24 * a + c) = 1 ∧ spc T a c) ∨ (ra s6 1026 0 (24 * a + c) = 0 ∧ ¬ spc T a c)) := by
          rw [e6.nraf 1026 0 (by decide)]; exact S4
        have hv1 : v = 1 := by omega
        by_cases qu : u = 0
        · rw [if_neg (fun w => w qu), e26.nrl 1026 0, l26]
          refine ⟨by omega, by omega, fun s5 e5 => ?_⟩
          have f5 : sq [(1026, 0)] s6 s5 := by rw [e5]; exact (sq.rf _ s6).pwa 1026 0 _ _ (by decide)
          exact ⟨⟨by omega, by omega⟩, ih i (j + 1) s5 (by omega) i0 i1 (by omega) (e26.tr (f5.mo (by decide))) (put s6 i j i0 i1 j0 j1 1 (Or.inl ⟨rfl, hvi.mp hv1, fun w => (by have := hui.mpr w; omega)⟩) S6 s5 e5) hL⟩
        · rw [if_pos qu, e26.nrl 1026 0, l26]
          refine ⟨by omega, by omega, fun s5 e5 => ?_⟩
          have f5 : sq [(1026, 0)] s6 s5 := by rw [e5]; exact (sq.rf _ s6).pwa 1026 0 _ _ (by decide)
          exact ⟨⟨by omega, by omega⟩, ih i (j + 1) s5 (by omega) i0 i1 (by omega) (e26.tr (f5.mo (by decide))) (put s6 i j i0 i1 j0 j1 0 (Or.inr ⟨rfl, fun w => w.2 (hui.mp (by omega))⟩) S6 s5 e5) hL⟩
  have outer : ∀ (d : Nat) (i : Int) (s2 : jS), i + ((d : Nat) : Int) = tG T → 0 ≤ i → sq [(1026, 0), (1027, 0)] σ s2 → (∀ a c, 0 ≤ a → a < tG T → 0 ≤ c → c < tG T → a < i → (ra s2 1026 0 (24 * a + c) = 1 ∧ spc T a c) ∨ (ra s2 1026 0 (24 * a + c) = 0 ∧ ¬ spc T a c)) → J n c_Model_scopes (some .int) 134 [some (jo 1 0), none, some (ji i), none] [] s2 (qI Q) := by
    intro d
    induction d with
    | zero =>
      intro i s2 hd i0 e2 hS
      have h14 : rs s2 1014 0 = tG T := by rw [e2.nrs 1014 0 (by decide)]; exact hT.2.1
      refine wp_Model_scopes_134 ⟨by omega, ?_⟩
      rw [if_pos (by omega)]
      refine ⟨by omega, wp_Model_forget ⟨by omega, fun s3 e3 s4 e4 s5 e5 s6 e6 => ?_⟩⟩
      have f3 : sq [(1070, 0)] s2 s3 := by rw [e3]; exact (sq.rf _ s2).pws 1070 0 _ (by decide)
      have f4 : sq [(1063, 0)] s3 s4 := by rw [e4]; exact (sq.rf _ s3).pws 1063 0 _ (by decide)
      have f5 : sq [(1065, 0)] s4 s5 := by rw [e5]; exact (sq.rf _ s4).pws 1065 0 _ (by decide)
      have f6 : sq [(1051, 0)] s5 s6 := by rw [e6]; exact (sq.rf _ s5).pws 1051 0 _ (by decide)
      have r70 : rs s3 1070 0 = 0 := by rw [e3, rs_ws, if_pos ⟨rfl, rfl⟩]
      have r63 : rs s4 1063 0 = 0 := by rw [e4, rs_ws, if_pos ⟨rfl, rfl⟩]
      have r65 : rs s5 1065 0 = 0 := by rw [e5, rs_ws, if_pos ⟨rfl, rfl⟩]
      have r51 : rs s6 1051 0 = 0 := by rw [e6, rs_ws, if_pos ⟨rfl, rfl⟩]
      clear e3 e4 e5 e6
      have fall : sq [(1026, 0), (1027, 0), (1051, 0), (1063, 0), (1065, 0), (1070, 0)] σ s6 := ((((e2.mo (by decide)).tr (f3.mo (by decide))).tr (f4.mo (by decide))).tr (f5.mo (by decide))).tr (f6.mo (by decide))
      have f26 : sq [(1051, 0), (1063, 0), (1065, 0), (1070, 0)] s2 s6 := (((f3.mo (by decide)).tr (f4.mo (by decide))).tr (f5.mo (by decide))).tr (f6.mo (by decide))
      have T6 : mTc s6 T := hT.sq fall (by decide)
      have k63 : rs s6 1063 0 = 0 := by rw [f6.nrs 1063 0 (by decide), f5.nrs 1063 0 (by decide), r63]
      have k65 : rs s6 1065 0 = 0 := by rw [f6.nrs 1065 0 (by decide), r65]
      have k70 : rs s6 1070 0 = 0 := by rw [f6.nrs 1070 0 (by decide), f5.nrs 1070 0 (by decide), f4.nrs 1070 0 (by decide), r70]
      have h14b : rs s5 1014 0 = tG T := by rw [f5.nrs 1014 0 (by decide), f4.nrs 1014 0 (by decide), f3.nrs 1014 0 (by decide)]; exact h14
      have h14c : rs s6 1014 0 = tG T := T6.2.1
      rw [h14c]
      refine hq s6 fall ⟨ht, T6.1, T6.2.1, T6.2.2.1, T6.2.2.2, fun a c a0 a1 c0 c1 => ?_⟩ ⟨by rw [k70]; rfl, by show 0 ≤ 40; omega, fun j h => absurd h (by simp), by rw [k63]; exact ⟨by omega, by show (0:Int) ≤ 200 * ((0 : Nat) : Int); omega⟩, by rw [k65]; omega, by rw [k63, k65]; omega, fun m m0 m1 => absurd m1 (by rw [k63]; omega)⟩ r51
      rw [f26.nra 1026 0 _ (by decide)]
      exact hS a c a0 a1 c0 c1 (by omega)
    | succ d ih =>
      intro i s2 hd i0 e2 hS
      have h14 : rs s2 1014 0 = tG T := by rw [e2.nrs 1014 0 (by decide)]; exact hT.2.1
      refine wp_Model_scopes_134 ⟨by omega, ?_⟩
      rw [if_neg (by omega)]
      refine inner (tG T).toNat i 0 s2 (by omega) i0 (by omega) (by omega) e2 (fun a c a0 a1 c0 c1 h => hS a c a0 a1 c0 c1 (by omega)) (fun s3 e3 hS3 => ?_)
      exact ih (i + 1) s3 (by omega) (by omega) e3 hS3
  exact outer (tG T).toNat 0 σ (by omega) (by omega) (sq.rf _ _) (fun a c a0 a1 c0 c1 h => absurd h (by omega))
end ZTs
