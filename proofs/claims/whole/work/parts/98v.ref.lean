/-! A whole asking: the reference. -/
def gz0 : zH := (fun _ => 0, fun _ _ => 0)
/-- the goal's nodes, nothing asked yet -/
def s00 (r : List Int) (M : zM) : zS := (((layR r gz0 0 (fun _ => -1)).1, (layR r gz0 0 (fun _ => -1)).2.1, []), M, (0, 0, 0, 0, 0))
def x00 (r : List Int) : Int := (layR r gz0 0 (fun _ => -1)).2.2.2.headD 0
/-- what an asking comes to, as a whole -/
noncomputable def askW (P : zP) (M : zM) (r : List Int) : zS × zQ := askS P 21 [] (s00 r M) (x00 r)
def aaF : List (Nat × Int) := (1100, 0) :: (1108, 0) :: (1111, 0) :: agF
theorem rep00 : rep gz0 0 [] [] := by
  refine ⟨trivial, ⟨fun _ => 0, fun n n0 n1 => absurd n1 (by omega)⟩, fun ρ => ⟨fun _ => ⟨fun n n0 n1 => absurd n1 (by omega), fun p hp => by cases hp⟩, fun _ n n0 n1 => absurd n1 (by omega)⟩⟩
/-- the goal is laid -/
theorem s00_ok {r : List Int} {M : zM} (hl : lok gz0 0 (fun _ => -1) r (layR r gz0 0 (fun _ => -1)).1 (layR r gz0 0 (fun _ => -1)).2.1 (layR r gz0 0 (fun _ => -1)).2.2.1 (layR r gz0 0 (fun _ => -1)).2.2.2) (hr : rwk r) : rep (hG (s00 r M)) (hN (s00 r M)) [] (hE (s00 r M)) ∧ gok (s00 r M) ∧ nOk (s00 r M) ∧ (0 ≤ x00 r ∧ x00 r < hN (s00 r M)) ∧ hN (s00 r M) ≤ 12 ∧ (zu (hG (s00 r M)) (hN (s00 r M)) : Int) ≤ 12 := by
  have hroot := lay_root hl hr.1
  obtain ⟨h1, h2, h3, h4, h5, h6, h6b, h7, h8, h9, h10, h11, h12, h13⟩ := hl
  have h12' := hr.2.2
  have hzc : zu (layR r gz0 0 (fun _ => -1)).1 (layR r gz0 0 (fun _ => -1)).2.1 ≤ ((layR r gz0 0 (fun _ => -1)).2.1).toNat := by
    unfold zu
    have := cnt_len (p := fun n => decide (gh (layR r gz0 0 (fun _ => -1)).1 n = -1)) (l := zrg (layR r gz0 0 (fun _ => -1)).2.1)
    rw [zrg_len] at this
    exact this
  refine ⟨rep_ext h3 h1 (fun n n0 n1 => absurd n1 (by omega)) h4 (fun p hp => by cases hp) rep00, ⟨h4, h1, (by intro p hp; cases hp), by show (0 : Int) ≤ 200; decide⟩, ⟨by show (0 : Int) ≤ 0; decide, by show (0 : Int) ≤ 200; decide, by show (0 : Int) ≤ 0; decide, by show (0 : Int) ≤ 0; decide, by show (0 : Int) ≤ 0; decide, by show (0 : Int) ≤ 0; decide, by show (0 : Int) + 0 - 144 * 0 ≤ 200; decide, by show (0 : Int) ≤ 0; decide, by show (0 : Int) ≤ 20; decide⟩, ⟨hroot.1, hroot.2.1⟩, ?_, ?_⟩
  · show (layR r gz0 0 (fun _ => -1)).2.1 ≤ 12
    omega
  · show (zu (layR r gz0 0 (fun _ => -1)).1 (layR r gz0 0 (fun _ => -1)).2.1 : Int) ≤ 12
    omega
section ZZc
variable {n : Nat} {σ σ1 : jS} {P : zP} {M : zM} {r : List Int}
set_option maxRecDepth 8000 in
theorem t_askAll {Q : Int → jS → Prop} {ap : Int} (hn : 20 ≤ n) (hm : mln σ) (hx : mTx σ P.1) (h15 : rs σ 1015 0 = P.2.1) (h16 : rs σ 1016 0 = P.2.2.1) (h50 : rs σ 1050 0 = P.2.2.2.1) (hsc : 0 ≤ P.2.2.2.1 ∧ P.2.2.2.1 < tS P.1) (hap : ap = if P.2.2.2.2 = true then 0 else 1) (h49 : rs σ 1049 0 = ((r.length : Nat) : Int)) (h48 : ∀ i : Nat, i < r.length → ra σ 1048 0 ((i : Nat) : Int) = r.getD i 0) (hr : rwk r) (hM : mMem σ M)
    (hq1 : (askW P M r).2.1 = 0 → ∀ σa σ', sq aaF σ σa → mPost P σa σ' (s00 r M) [] [] (x00 r) (askW P M r) → sq aaF σ σ' → rs σ' 1111 0 = x00 r → Q (match (askW P M r).2.2.1 with | none => 1 | some _ => 0) σ')
    (hq2 : ¬ (askW P M r).2.1 = 0 → ∀ σa σ', sq aaF σ σa → mErr σa σ' (askW P M r) → sq aaF σ σ' → rs σ' 1111 0 = x00 r → Q (askW P M r).2.1 σ') : TrI n i_Model_askAll [jo 1 0, ji ap] σ Q := by
  have hT := hx.1
  have l48 := mln_at hm 1048 12 (by decide)
  have hr12 := hr.2.2
  refine wp_Model_askAll ⟨by omega, by rw [hap]; split <;> simp, fun s2 e2 => ⟨by omega, wp_Model_beginHeap ⟨by omega, fun s3 e3 s4 e4 s5 e5 s7 e7 s8 e8 s9 e9 s10 e10 s11 e11 s12 e12 s13 e13 s14 e14 s15 e15 s16 e16 s17 e17 => ?_⟩⟩⟩
  have F17 : sq aaF σ s17 := by
    rw [e17, e16, e15, e14, e13, e12, e11, e10, e9, e8, e7, e5, e4, e3, e2]
    exact ((((((((((((((((sq.rf _ σ).pws 1100 0 _ (by decide)).pws 1033 0 _ (by decide)).pws 1034 0 _ (by decide)).pws 1035 0 _ (by decide)).pws 1064 0 _ (by decide)).pws 1097 0 _ (by decide)).pws 1098 0 _ (by decide)).pws 1099 0 _ (by decide)).pws 1101 0 _ (by decide)).pws 1103 0 _ (by decide)).pws 1104 0 _ (by decide)).pws 1105 0 _ (by decide)).pws 1106 0 _ (by decide)).pws 1107 0 _ (by decide)).pws 1108 0 _ (by decide))
  have G17 : sq [(1100, 0), (1033, 0), (1034, 0), (1035, 0), (1064, 0), (1097, 0), (1098, 0), (1099, 0), (1101, 0), (1103, 0), (1104, 0), (1105, 0), (1106, 0), (1107, 0), (1108, 0)] σ s17 := by
    rw [e17, e16, e15, e14, e13, e12, e11, e10, e9, e8, e7, e5, e4, e3, e2]
    exact ((((((((((((((((sq.rf _ σ).pws 1100 0 _ (by decide)).pws 1033 0 _ (by decide)).pws 1034 0 _ (by decide)).pws 1035 0 _ (by decide)).pws 1064 0 _ (by decide)).pws 1097 0 _ (by decide)).pws 1098 0 _ (by decide)).pws 1099 0 _ (by decide)).pws 1101 0 _ (by decide)).pws 1103 0 _ (by decide)).pws 1104 0 _ (by decide)).pws 1105 0 _ (by decide)).pws 1106 0 _ (by decide)).pws 1107 0 _ (by decide)).pws 1108 0 _ (by decide))
  have v100 : rs s17 1100 0 = ap := by rw [e17, e16, e15, e14, e13, e12, e11, e10, e9, e8, e7, e5, e4, e3, e2]; rfl
  have v33 : rs s17 1033 0 = 0 := by rw [e17, e16, e15, e14, e13, e12, e11, e10, e9, e8, e7, e5, e4, e3]; rfl
  have v34 : rs s17 1034 0 = 0 := by rw [e17, e16, e15, e14, e13, e12, e11, e10, e9, e8, e7, e5, e4]; rfl
  have v35 : rs s17 1035 0 = 0 := by rw [e17, e16, e15, e14, e13, e12, e11, e10, e9, e8, e7, e5]; rfl
  have v64 : rs s17 1064 0 = 8200 := by rw [e17, e16, e15, e14, e13, e12, e11, e10, e9, e8, e7]; rfl
  have v97 : rs s17 1097 0 = 0 := by rw [e17, e16, e15, e14, e13, e12, e11, e10, e9, e8]; rfl
  have v98 : rs s17 1098 0 = 0 := by rw [e17, e16, e15, e14, e13, e12, e11, e10, e9]; rfl
  have v99 : rs s17 1099 0 = -1 := by rw [e17, e16, e15, e14, e13, e12, e11, e10]; rfl
  have v101 : rs s17 1101 0 = 0 := by rw [e17, e16, e15, e14, e13, e12, e11]; rfl
  have v103 : rs s17 1103 0 = 0 := by rw [e17, e16, e15, e14, e13, e12]; rfl
  have v104 : rs s17 1104 0 = 0 := by rw [e17, e16, e15, e14, e13]; rfl
  have v105 : rs s17 1105 0 = 0 := by rw [e17, e16, e15, e14]; rfl
  have v106 : rs s17 1106 0 = 0 := by rw [e17, e16, e15]; rfl
  have v107 : rs s17 1107 0 = 0 := by rw [e17, e16]; rfl
  have v108 : rs s17 1108 0 = P.2.2.2.1 := by rw [e17, ← h50, e16, e15, e14, e13, e12, e11, e10, e9, e8, e7, e5, e4, e3, e2]; rfl
  clear e2 e3 e4 e5 e7 e8 e9 e10 e11 e12 e13 e14 e15 e16 e17
  have m17 : mln s17 := hm.sq F17
  refine t_newUnknowns m17 (fun s18 f18 hV => ?_)
  have G18 : sq [(1036, 0), (1100, 0), (1033, 0), (1034, 0), (1035, 0), (1064, 0), (1097, 0), (1098, 0), (1099, 0), (1101, 0), (1103, 0), (1104, 0), (1105, 0), (1106, 0), (1107, 0), (1108, 0)] σ s18 := (G17.mo (by decide)).tr (f18.mo (by decide))
  have H18 : mT s18 gz0 0 [] := by
    refine ⟨hm.sq G18, fun n n0 n1 => absurd n1 (by omega), trivial, by rw [f18.nrs 1033 0 (by decide)]; exact v33, by omega, by omega, ?_, fun n n0 n1 => absurd n1 (by omega), by rw [f18.nrs 1034 0 (by decide), v34]; omega, fun n n0 n1 => absurd n1 (by omega), fun n n0 n1 => absurd n1 (by omega), by rw [f18.nrs 1035 0 (by decide)]; exact v35, trivial⟩
    show cnt _ (zrg 0) ≤ 20000
    exact Nat.zero_le _
  have hz0 : zu gz0 0 = 0 := rfl
  rw [G18.nrl 1048 0, l48, G18.nrs 1049 0 (by decide), h49]
  have huu : unu (fun _ => -1) ≤ 26 := by
    unfold unu
    have := cnt_len (p := fun v : Int => decide ((fun _ : Int => (-1 : Int)) v = -1)) (l := zrg 26)
    rw [zrg_len] at this
    exact this
  refine ⟨by omega, t_layRow (r := r) (g := gz0) (N := 0) (β := []) (vs := fun _ => -1) (by omega) H18 hV (fun v => Or.inl rfl) rfl rfl (by decide) (by omega) (by rw [G18.nrl 1048 0, l48]; omega) (fun i hi => by rw [G18.nra 1048 0 _ (by decide), show (0 : Int) + ((i : Nat) : Int) = ((i : Nat) : Int) by omega]; exact h48 i hi) hr.2.1 hr.1 (by omega) (by rw [f18.nrs 1034 0 (by decide), v34]; omega) (by rw [hz0]; omega) (by omega) (by omega) (fun s21 h21 s23 e23 => ?_)⟩
  obtain ⟨T21, -, q21, -, -, -, p21, lk⟩ := h21
  obtain ⟨o1, o2, o3, ⟨o4, o5⟩, o6, o7⟩ := s00_ok (M := M) lk hr
  have f23 : sq [(1111, 0)] s21 s23 := by rw [e23]; exact (sq.rf _ s21).pws 1111 0 _ (by decide)
  have r23 : rs s23 1111 0 = x00 r := by rw [e23, rs_ws, if_pos ⟨rfl, rfl⟩]; rfl
  clear e23
  have K : sq ((1111, 0) :: lF) s18 s23 := (q21.mo (by decide)).tr (f23.mo (by decide))
  have K17 : sq ((1036, 0) :: (1111, 0) :: lF) s17 s23 := (f18.mo (by decide)).tr (K.mo (by decide))
  have A23 : sq aaF σ s23 := F17.tr (K17.mo (by decide))
  have G23 : sq ((1036, 0) :: (1111, 0) :: (1100, 0) :: (1064, 0) :: (1097, 0) :: (1098, 0) :: (1099, 0) :: (1101, 0) :: (1103, 0) :: (1104, 0) :: (1105, 0) :: (1106, 0) :: (1107, 0) :: (1108, 0) :: (1035, 0) :: lF) σ s23 := (G17.mo (by decide)).tr (K17.mo (by decide))
  have B23 : mB s23 P (s00 r M) [] := by
    refine ⟨hm.sq A23, hx.sq G23 (by decide), ⟨?_, ?_, ?_, ?_⟩, ⟨?_, ?_, ?_, ?_, ?_⟩, fun d hd => absurd hd (by simp), hM.K (G23.ndK (L := 8200) (by decide)) (Int.le_refl _) (G23.nrs 1063 0 (by decide)) (G23.nrs 1065 0 (by decide)) (G23.nrs 1070 0 (by decide)), ?_, ?_, ?_⟩
    · rw [G23.nrs 1015 0 (by decide)]; exact h15
    · rw [G23.nrs 1016 0 (by decide)]; exact h16
    · rw [K17.nrs 1108 0 (by decide)]; exact v108
    · rw [K17.nrs 1100 0 (by decide), v100]; exact hap
    · rw [K17.nrs 1103 0 (by decide)]; exact v103
    · rw [K17.nrs 1104 0 (by decide)]; exact v104
    · rw [K17.nrs 1105 0 (by decide)]; exact v105
    · rw [K17.nrs 1106 0 (by decide)]; exact v106
    · rw [K17.nrs 1107 0 (by decide)]; exact v107
    · rw [K17.nrs 1099 0 (by decide)]; exact v99
    · rw [K17.nrs 1064 0 (by decide), v64]; exact ⟨by omega, by show (8200 : Int) ≤ 8200 + 0; omega⟩
    · rw [K17.nrs 1097 0 (by decide), v97]; omega
  rw [r23]
  have hres := ask_R hT 21 [] (s00 r M) (x00 r) o2 o4 o5
  -- how it goes on
  have main := t_askGoal (P := P) (LP := fun σ2 => J n c_Model_askAll (some .int) 98 [some (jo 1 0), none] [] σ2 (qI Q)) (nA := 6) (nS := n - 1) (fun σ2 h1 h2 h3 => wp_Model_askAll_98 ⟨by omega, by rw [if_neg (fun w => w h1), if_neg (by omega)]; exact ⟨by omega, h3⟩⟩) (by omega) (by omega) hT hsc 21 [] (n - 1) (by omega) (by omega) rfl (s00 r M) (x00 r) [] s23 B23 ?_ o1 o2 o3 ?_ ?_ o4 o5 ?_ ?_ ?_ ?_ (fun p hp => by cases hp) (fun h0 σ' hp => ?_) (fun h0 σ' he => ?_)
  · exact main
  · exact T21.sq f23 (by decide)
  · rw [K17.nrs 1098 0 (by decide)]; exact v98
  · rw [K17.nrs 1101 0 (by decide)]; exact v101
  · show hN (s00 r M) ≤ 12 + 120 * 0
    omega
  · rw [f23.nrs 1034 0 (by decide)]
    show rs s21 1034 0 ≤ 12 + 120 * 0
    rw [f18.nrs 1034 0 (by decide), v34] at p21
    omega
  · show (zu (hG (s00 r M)) (hN (s00 r M)) : Int) ≤ 12 + 52 * 0
    omega
  · rw [K17.nrs 1097 0 (by decide), v97]
    show (0 : Int) ≤ 100 * 0 + _
    omega
  · -- it ended well, or not
    have hA : sq aaF σ σ' := A23.tr (hp.1.1.mo (by decide))
    have h99 : rs σ' 1099 0 = -1 := hp.2.1.2.2.2.2.2.2.1
    have h98 : rs σ' 1098 0 = 0 := hp.2.2.1.1
    have h111 : rs σ' 1111 0 = x00 r := by rw [hp.1.1.nrs 1111 0 (by decide)]; exact r23
    have hfin := hq1 h0 s23 σ' A23 hp hA h111
    obtain ⟨new, -, -, p1, p2⟩ := hp.2.2.2.2.2.2
    refine wp_Model_askAll_98 ⟨by omega, ?_⟩
    rw [if_neg (fun w => w h99), if_pos (by omega)]
    refine wp_Model_askAll_120 ⟨by omega, ?_⟩
    rw [if_pos h99]
    cases ht : (askW P M r).2.2.1 with
    | none =>
      rw [ht] at hfin
      have : rs σ' 1102 0 = -1 := p1 ht
      rw [if_neg (fun w => w this)]
      exact hfin
    | some t =>
      rw [ht] at hfin
      have := (p2 t ht).1.1
      rw [if_pos (by omega)]
      exact hfin
  · -- in another way
    have hA : sq aaF σ σ' := A23.tr (he.1.mo (by decide))
    have h111 : rs σ' 1111 0 = x00 r := by rw [he.1.nrs 1111 0 (by decide)]; exact r23
    have h99 : rs σ' 1099 0 = (askW P M r).2.1 := he.2.1
    have hfin := hq2 h0 s23 σ' A23 he hA h111
    have hr6 : 0 ≤ (askW P M r).2.1 ∧ (askW P M r).2.1 ≤ 6 := hres.2.1
    have h0' : ¬ (askW P M r).2.1 = 0 := h0
    refine wp_Model_askAll_98 ⟨by omega, ?_⟩
    rw [if_pos (by omega)]
    refine wp_Model_askAll_120 ⟨by omega, ?_⟩
    rw [if_neg (by omega), h99]
    exact hfin
end ZZc
