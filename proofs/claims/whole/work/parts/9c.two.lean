/-! Two types, laid anew, become one: the class. -/
def lA (r : List Int) : zH × Int × (Int → Int) × List Int := layR r gz0 0 (fun _ => -1)
def vsB (sh : Bool) (r : List Int) : Int → Int := if sh = true then (lA r).2.2.1 else fun _ => -1
def lB (sh : Bool) (r1 r2 : List Int) : zH × Int × (Int → Int) × List Int := layR r2 (lA r1).1 (lA r1).2.1 (vsB sh r1)
def xA (r : List Int) : Int := (lA r).2.2.2.headD 0
def yB (sh : Bool) (r1 r2 : List Int) : Int := (lB sh r1 r2).2.2.2.headD 0
/-- two types can become one; sh: letters of both are the same -/
def twP (sh : Bool) (r1 r2 : List Int) : Prop := ∃ ρ, str (lB sh r1 r2).1 (lB sh r1 r2).2.1 ρ ∧ ρ (xA r1) = ρ (yB sh r1 r2)
/-- what both become -/
noncomputable def twR (sh : Bool) (r1 r2 : List Int) : List Int := rowE (lB sh r1 r2).1 (lB sh r1 r2).2.1 [(xA r1, yB sh r1 r2)] (xA r1)
def twF : List (Nat × Int) := [(9000, 0), (9001, 0), (9002, 0), (9003, 0), (9004, 0), (9005, 0), (9006, 0), (9008, 0), (9009, 0), (9010, 0), (9012, 0), (9013, 0)]
/-- what comes of it -/
def twO (sh : Bool) (r1 r2 : List Int) (b : Int) (new : List (Int × Int)) : Prop := acy (lB sh r1 r2).1 (lB sh r1 r2).2.1 new ∧ bok (lB sh r1 r2).1 (lB sh r1 r2).2.1 new ∧ ((b = 1 ∧ twP sh r1 r2 ∧ rep (lB sh r1 r2).1 (lB sh r1 r2).2.1 new [(xA r1, yB sh r1 r2)]) ∨ (b = 0 ∧ ¬ twP sh r1 r2))
theorem unu_26 (vs : Int → Int) : unu vs ≤ 26 := by
  unfold unu
  have := cnt_len (p := fun v : Int => decide (vs v = -1)) (l := zrg 26)
  rw [zrg_len] at this
  exact this
section ZTw
variable {n : Nat} {σ0 σ σ1 : jS} {T : zT} {M : zM} {r r1 r2 : List Int} {sh : Bool} {g : zH} {N : Int}
theorem lA_lok (h : rwk r) : lok gz0 0 (fun _ => -1) r (lA r).1 (lA r).2.1 (lA r).2.2.1 (lA r).2.2.2 := lok_all (fun n n0 n1 => absurd n1 (by omega)) (Int.le_refl _) (fun _ => Or.inl rfl) h.1 h.2.1
/-- as long as its row, where nothing is put -/
theorem lay_exlen0 {vs vs0 : Int → Int} {g0 : zH} {N0 : Int} {pile : List Int} (hl : lok g0 N0 vs0 r g N vs pile) (hT : Typ r) (ha : acy g N []) : (ex g N [] (pile.headD 0)).length = r.length := by
  obtain ⟨h1, h2, h3, h4, h5, h6, h6b, h7, h8, h9, h10, h11, h12, h13⟩ := hl
  have hlen : pile.length = 1 := rdk_uni h8 hT
  have hs := ex_sol h4 (show bok g N [] from trivial) ha
  have hex : ex g N [] (pile.headD 0) = sbt (fun t => ex g N [] (vs (-1 - t))) r := by
    cases pile with
    | nil => cases hlen
    | cons a pile =>
      cases pile with
      | nil =>
        have := h10 _ (sol_iff.mp hs).1
        simp at this
        exact this
      | cons b pile => simp at hlen
  rw [hex]
  have : ∀ l : List Int, (∀ t, t ∈ l → t ∈ r) → (sbt (fun t => ex g N [] (vs (-1 - t))) l).length = l.length := by
    intro l
    induction l with
    | nil => intro _; rfl
    | cons a l ih =>
      intro hlr
      have ih := ih (fun t ht => hlr t (List.mem_cons_of_mem _ ht))
      by_cases q : a < 0
      · have w1 := h7 a (hlr a List.mem_cons_self) q
        obtain ⟨c1, c2, c3⟩ := (h5 (-1 - a)).resolve_left w1
        rw [sbt_cons_v q, List.length_append, ih, ex_un h4 (show bok g N [] from trivial) ha c1 c2 c3 rfl, List.length_cons]
        simp
        omega
      · rw [sbt_cons_c q, List.length_cons, List.length_cons, ih]
  exact this r (fun _ h => h)
theorem pile_in {vs vs0 : Int → Int} {g0 : zH} {N0 : Int} {pile : List Int} (hl : lok g0 N0 vs0 r g N vs pile) (hT : Typ r) : 0 ≤ pile.headD 0 ∧ pile.headD 0 < N := by
  obtain ⟨h1, h2, h3, h4, h5, h6, h6b, h7, h8, h9, h10, h11, h12, h13⟩ := hl
  have hlen : pile.length = 1 := rdk_uni h8 hT
  cases pile with
  | nil => cases hlen
  | cons a pile => exact h9 a List.mem_cons_self
/-- both are laid -/
theorem lB_ok (h1 : rwk r1) (h2 : rwk r2) (lk2 : lok (lA r1).1 (lA r1).2.1 (vsB sh r1) r2 (lB sh r1 r2).1 (lB sh r1 r2).2.1 (lB sh r1 r2).2.2.1 (lB sh r1 r2).2.2.2) : rep (lB sh r1 r2).1 (lB sh r1 r2).2.1 [] [] ∧ zok (lB sh r1 r2).1 (lB sh r1 r2).2.1 ∧ (0 ≤ xA r1 ∧ xA r1 < (lB sh r1 r2).2.1) ∧ (0 ≤ yB sh r1 r2 ∧ yB sh r1 r2 < (lB sh r1 r2).2.1) ∧ (lB sh r1 r2).2.1 ≤ 24 ∧ (ex (lB sh r1 r2).1 (lB sh r1 r2).2.1 [] (xA r1)).length ≤ 12 ∧ (ex (lB sh r1 r2).1 (lB sh r1 r2).2.1 [] (yB sh r1 r2)).length ≤ 12 := by
  have lk1 := lA_lok h1
  have hl1 := h1.2.2
  have hl2 := h2.2.2
  have o := (s00_ok (M := []) lk1 h1).1
  have rep1 : rep (lA r1).1 (lA r1).2.1 [] [] := o
  have p1 := pile_in lk1 h1.1
  have p2 := pile_in lk2 h2.1
  have e1 := lay_exlen0 lk1 h1.1 rep1.2.1
  have rep2 := rep_ext lk2.2.2.1 lk2.1 lk1.2.2.2.1 lk2.2.2.2.1 (fun p hp => by cases hp) rep1
  have e2 := lay_exlen0 lk2 h2.1 rep2.2.1
  have e3 := ex_ext lk2.2.2.1 lk2.1 lk1.2.2.2.1 lk2.2.2.2.1 rep1.1 rep1.2.1 (xA r1) p1.1 p1.2
  have n1 := lk1.2.1
  have n2 := lk2.2.1
  have n3 := lk2.1
  refine ⟨rep2, lk2.2.2.2.1, ⟨p1.1, ?_⟩, p2, by omega, ?_, ?_⟩
  · have := p1.2
    show (lA r1).2.2.2.headD 0 < _
    omega
  · rw [e3]
    show (ex (lA r1).1 (lA r1).2.1 [] ((lA r1).2.2.2.headD 0)).length ≤ 12
    omega
  · show (ex (lB sh r1 r2).1 (lB sh r1 r2).2.1 [] ((lB sh r1 r2).2.2.2.headD 0)).length ≤ 12
    omega
theorem twO_of {Rs : List Int} {b : Int} {new : List (Int × Int)} (hr : rep (lB sh r1 r2).1 (lB sh r1 r2).2.1 [] []) (hz : zok (lB sh r1 r2).1 (lB sh r1 r2).2.1) (hb : bok (lB sh r1 r2).1 (lB sh r1 r2).2.1 (new ++ [])) (ha : acy (lB sh r1 r2).1 (lB sh r1 r2).2.1 (new ++ [])) (h : uOk (lB sh r1 r2).1 (lB sh r1 r2).2.1 [] Rs (xA r1) (yB sh r1 r2) b new) : twO sh r1 r2 b (new ++ []) := by
  refine ⟨ha, hb, ?_⟩
  rcases h with ⟨e, d1, d2, -, d3⟩ | ⟨e, d3⟩
  · refine Or.inl ⟨e, ?_, rep_put (Rs := []) hr hb ha d3⟩
    have hsol := ex_sol hz hb d1
    have := (d3 _).mp hsol
    exact ⟨_, (sol_iff.mp this.1).1, this.2⟩
  · refine Or.inr ⟨e, ?_⟩
    rintro ⟨ρ, w1, w2⟩
    exact d3 ρ (sol_iff.mpr ⟨w1, fun n _ _ _ w => absurd rfl w⟩) w2
/-- nodes begin anew, two are built, and made one -/
theorem c_two {K : Int → Int → jS → Prop} {o1 o2 own : Int} (hn : 6 ≤ n) (hZ : cZ σ T M) (hown : own = if sh = true then 0 else 1) (hf1 : fT σ o1 r1) (hf2 : fT σ o2 r2) (h1 : rwk r1) (h2 : rwk r2)
    (hK : ∀ b new σ', cq twF σ σ' → cT σ' (lB sh r1 r2).1 (lB sh r1 r2).2.1 new → twO sh r1 r2 b new → K (xA r1) b σ') : TrV n i_Terms_clear [jo 9 0] σ (fun zs4 => 0 ≤ o1 ∧ 0 ≤ rs zs4 7000 0 ∧ TrI n i_Terms_build [jo 9 (rs zs4 7000 0), jo 0 o1, ji 1] zs4 (fun zr9 zs8 => 0 ≤ o2 ∧ 0 ≤ rs zs8 7000 0 ∧ TrI n i_Terms_build [jo 9 (rs zs8 7000 0), jo 0 o2, ji own] zs8 (fun zr13 zs12 => 0 ≤ rs zs8 7000 0 ∧ TrI n i_Terms_unify [jo 9 (rs zs8 7000 0), ji zr9, ji zr13] zs12 (K zr9)))) := by
  obtain ⟨z1, z2, z3, z4, ⟨z5a, z5b, z5c, z5d, z5e, z5f⟩, z6, z7⟩ := hZ
  have hl1 := h1.2.2
  have hl2 := h2.2.2
  have o10 := hf1.1
  have o20 := hf2.1
  refine wp_Terms_clear ⟨by omega, fun s2 e2 s3 e3 s4 e4 => ?_⟩
  have f4 : sq [(9000, 0), (9001, 0), (9002, 0)] σ s4 := by rw [e4, e3, e2]; exact (((sq.rf _ σ).pws 9000 0 _ (by decide)).pws 9001 0 _ (by decide)).pws 9002 0 _ (by decide)
  have r40 : rs s4 9000 0 = 0 := by rw [e4, e3, e2]; rfl
  have r41 : rs s4 9001 0 = 0 := by rw [e4, e3]; rfl
  clear e2 e3 e4
  have K4 : cq [(9000, 0), (9001, 0), (9002, 0)] σ s4 := f4.cq (by decide)
  have C4 : cC s4 := z2.cq K4 (by decide)
  have hL4 : ∀ G q, rl s4 G q = rl σ G q := fun G q => f4.nrl G q
  have T4 : cT s4 gz0 0 [] := by
    refine ⟨⟨z1.sq f4, fun n n0 n1 => absurd n1 (by omega), trivial, r40, by omega, by omega, Nat.zero_le _, ⟨?_, by rw [hL4]; exact z5a, by rw [hL4, hL4]; exact z5b, by rw [hL4, hL4]; exact z5c⟩, by rw [hL4]; exact z5d, fun n n0 n1 => absurd n1 (by omega), fun n n0 n1 => absurd n1 (by omega), fun n n0 n1 => absurd n1 (by omega), ⟨by rw [r41]; rfl, ?_⟩, trivial⟩, fun i i0 i1 => ?_⟩
    · rw [hL4]; unfold gr2 at z5a; omega
    · rw [hL4]; show (0 : Int) ≤ _; unfold gr2 at z5d; omega
    · rw [hL4] at i1
      rw [f4.nra 9004 0 _ (by decide)]
      exact z6 i i0 i1
  have hz0 : zu gz0 0 = 0 := rfl
  have u26 := unu_26 (fun _ => -1)
  rw [cC_at C4 7000 0 0 (by decide)]
  refine ⟨o10, by omega, c_build (g := gz0) (N := 0) (β := []) (vs := fun _ => -1) (by omega) T4 (hf1.sq f4 (by decide)) (fun v => Or.inl rfl) (Or.inr ⟨rfl, rfl⟩) h1.2.1 h1.1 (by omega) (by rw [hz0]; omega) (by omega) (fun s8 T8 V8 q8 lk1 => ?_)⟩
  have T8 : cT s8 (lA r1).1 (lA r1).2.1 [] := T8
  have V8 : cV s8 (lA r1).2.2.1 := V8
  have lk1 : lok gz0 0 (fun _ => -1) r1 (lA r1).1 (lA r1).2.1 (lA r1).2.2.1 (lA r1).2.2.2 := lk1
  have C8 : cC s8 := C4.cq q8 (by decide)
  have hzu := lk1.2.2.2.2.2.2.2.2.2.2.2.1
  have n1 := lk1.2.1
  have u1 := unu_26 (lA r1).2.2.1
  have uB := unu_26 (vsB sh r1)
  rw [cC_at C8 7000 0 0 (by decide)]
  have hvB : vok (lA r1).1 (lA r1).2.1 (vsB sh r1) := by
    unfold vsB
    cases sh with
    | true => exact lk1.2.2.2.2.1
    | false => exact fun v => Or.inl rfl
  have hownB : own = 0 ∧ cV s8 (vsB sh r1) ∨ own = 1 ∧ vsB sh r1 = fun _ => -1 := by
    unfold vsB
    cases sh with
    | true => exact Or.inl ⟨hown, V8⟩
    | false => exact Or.inr ⟨hown, rfl⟩
  refine ⟨o20, by omega, c_build (g := (lA r1).1) (N := (lA r1).2.1) (β := []) (vs := vsB sh r1) (by omega) T8 ((hf2.sq f4 (by decide)).cq q8 (by decide)) hvB hownB h2.2.1 h2.1 (by omega) (by omega) (by omega) (fun s12 T12 V12 q12 lk2 => ⟨by omega, ?_⟩)⟩
  have T12 : cT s12 (lB sh r1 r2).1 (lB sh r1 r2).2.1 [] := T12
  have lk2 : lok (lA r1).1 (lA r1).2.1 (vsB sh r1) r2 (lB sh r1 r2).1 (lB sh r1 r2).2.1 (lB sh r1 r2).2.2.1 (lB sh r1 r2).2.2.2 := lk2
  obtain ⟨a1, a2, a3, a4, a5, a6, a7⟩ := lB_ok h1 h2 lk2
  show TrI n i_Terms_unify [jo 9 0, ji (xA r1), ji (yB sh r1 r2)] s12 (K (xA r1))
  obtain ⟨R1, p1, p2, p3, p4⟩ := sml_ex a2 a1.1 a1.2.1 (xA r1) a3.1 a3.2
  obtain ⟨R2, u21, u22, u23, u24⟩ := sml_ex a2 a1.1 a1.2.1 (yB sh r1 r2) a4.1 a4.2
  have hRl : (R1 ++ R2).length ≤ 200 := by rw [List.length_append]; omega
  refine c_unifa (Rs := R1 ++ R2) (by omega) hRl T12 a1.2.1 (sml_app p2 u22) a3.1 a3.2 a4.1 a4.2 (List.mem_append_left _ p1) (List.mem_append_right _ u21) (fun kk hkk => crun_most a2 a1.1 a1.2.1 a3.1 a3.2 a4.1 a4.2 (by omega) hkk) (fun bb new σ3 c1 c2 c4 c3 => ?_)
  refine hK bb (new ++ []) σ3 (((((K4.mo (by decide)).tr (q8.mo (by decide))).tr (q12.mo (by decide)))).tr (c2.mo (by decide))) c1 (twO_of a1 a2 c1.1.2.2.1 c4 c3)
/-- the class, as it is between two askings, after terms were made anew -/
theorem cZ.tw {l : List (Nat × Int)} {β : List (Int × Int)} (h : cZ σ T M) (e : cq l σ σ1) (hT : cT σ1 g N β) (hl : (mrL ++ cTxF ++ (9007, 0) :: (6001, 1) :: ccT.map (fun p => p.1)).all (fun p => !l.contains p) = true) (hf : ∀ o : Int, (2 ≤ o ∧ o < 242) ∨ 251 ≤ o → ¬ (0, o) ∈ l ∧ ¬ (1, o) ∈ l) : cZ σ1 T M := by
  obtain ⟨z1, z2, z3, z4, ⟨z5a, z5b, z5c, z5d, z5e, z5f⟩, z6, z7⟩ := h
  have hall : ∀ p, p ∈ (mrL ++ cTxF ++ (9007, 0) :: (6001, 1) :: ccT.map (fun p => p.1)) → (!l.contains p) = true := fun p hp => List.all_eq_true.mp hl p hp
  have h7 : l.contains (9007, 0) = false := by
    have := hall (9007, 0) (List.mem_append_right _ List.mem_cons_self)
    simpa using this
  have h6 : l.contains (6001, 1) = false := by
    have := hall (6001, 1) (List.mem_append_right _ (List.mem_cons_of_mem _ List.mem_cons_self))
    simpa using this
  obtain ⟨⟨-, -, -, -, -, -, -, ⟨-, t1, t2, t3⟩, t4, -⟩, t5⟩ := hT
  refine ⟨z1.cq e, z2.cq e (List.all_eq_true.mpr (fun p hp => hall p.1 (List.mem_append_right _ (List.mem_cons_of_mem _ (List.mem_cons_of_mem _ (List.mem_map_of_mem hp)))))), z3.cq e (List.all_eq_true.mpr (fun p hp => hall p (List.mem_append_left _ (List.mem_append_right _ hp)))) (fun o o0 o1 => hf o (Or.inl ⟨o0, o1⟩)), memR_cq2 z4 e (List.all_eq_true.mpr (fun p hp => hall p (List.mem_append_left _ (List.mem_append_left _ hp)))) (fun o o0 => hf o (Or.inr o0)), ⟨t1, t2, t3, t4, ?_, ?_⟩, t5, e.2.2.2.2 z7⟩
  · rw [e.nrl 9007 0 (by decide) h7]; exact z5e
  · rw [e.nrl 6001 1 (by decide) h6]; exact z5f
/-- whether two given ones' types can be one -/
theorem c_canMeet {Q : Int → jS → Prop} {o1 o2 : Int} (hn : 7 ≤ n) (hZ : cZ σ T M) (hf1 : fT σ o1 r1) (hf2 : fT σ o2 r2) (h1 : rwk r1) (h2 : rwk r2)
    (hq : ∀ b σ', cq twF σ σ' → cZ σ' T M → ((b = 1 ∧ twP false r1 r2) ∨ (b = 0 ∧ ¬ twP false r1 r2)) → Q b σ') : TrI n i_Search_canMeet [jo 7 0, jo 0 o1, jo 0 o2] σ Q := by
  have t70 := cC_at hZ.2.1 7000 0 0 (by decide)
  refine wp_Search_canMeet ⟨by omega, by omega, by omega, ?_⟩
  rw [t70]
  refine c_two (sh := false) (by omega) hZ rfl hf1 hf2 h1 h2 (fun b new σ' e1 e2 e3 => ?_)
  have hb : (b = 1 ∧ twP false r1 r2) ∨ (b = 0 ∧ ¬ twP false r1 r2) := by
    rcases e3.2.2 with ⟨w1, w2, -⟩ | w
    · exact Or.inl ⟨w1, w2⟩
    · exact Or.inr w
  exact ⟨by omega, hq b σ' e1 (hZ.tw e1 e2 (by decide) (nofl3 (by decide))) hb⟩
/-- two types become one, letters being one -/
theorem c_join {Q : Int → jS → Prop} {o1 o2 : Int} (hn : 7 ≤ n) (hZ : cZ σ T M) (hf1 : fT σ o1 r1) (hf2 : fT σ o2 r2) (h1 : rwk r1) (h2 : rwk r2)
    (hq : ∀ b σ', cq (twF ++ fF 1) σ σ' → cZ σ' T M → ((b = 1 ∧ twP true r1 r2 ∧ rs σ' 1 1 = (if (twR true r1 r2).length ≤ 100 then (((twR true r1 r2).length : Nat) : Int) else 101) ∧ (∀ j : Nat, j < (twR true r1 r2).length → j < 100 → ra σ' 0 1 j = cc ((twR true r1 r2).getD j 0)) ∧ (∃ new, rep (lB true r1 r2).1 (lB true r1 r2).2.1 new [(xA r1, yB true r1 r2)])) ∨ (b = 0 ∧ ¬ twP true r1 r2)) → Q b σ') : TrI n i_Search_join [jo 7 0, jo 0 o1, jo 0 o2, jo 0 1] σ Q := by
  have t70 := cC_at hZ.2.1 7000 0 0 (by decide)
  refine wp_Search_join ⟨by omega, by omega, by omega, ?_⟩
  rw [t70]
  refine c_two (sh := true) (K := fun zr9 zr16 zs15 => 0 ≤ (1 : Int) ∧ 0 ≤ rs zs15 7000 0 ∧ TrV (n - 1) i_Terms_flatten [jo 9 (rs zs15 7000 0), ji zr9, jo 0 1] zs15 (fun zs19 => (zr16 = 0 ∨ zr16 = 1) ∧ Q zr16 zs19)) (by omega) hZ rfl hf1 hf2 h1 h2 (fun b new σ' e1 e2 e3 => ?_)
  have C' : cC σ' := hZ.2.1.cq e1 (by decide)
  obtain ⟨k1, k2, k3⟩ := e3
  obtain ⟨a1, a2, a3, a4, a5, a6, a7⟩ := lB_ok h1 h2 (lok_all (lA_lok h1).2.2.2.1 (lA_lok h1).1 (by
    unfold vsB
    exact (lA_lok h1).2.2.2.2.1) h2.1 h2.2.1 : lok (lA r1).1 (lA r1).2.1 (vsB true r1) r2 (lB true r1 r2).1 (lB true r1 r2).2.1 (lB true r1 r2).2.2.1 (lB true r1 r2).2.2.2)
  rw [cC_at C' 7000 0 0 (by decide)]
  refine ⟨by omega, by omega, c_flatten (by omega) e2 k1 (by omega) (C'.2.1 (1, 100) (by decide)) a3.1 a3.2 (fun s19 f19 r19 => ?_)⟩
  have q19 : cq (fF 1) σ' s19 := f19.cq (by decide)
  have q : cq (twF ++ fF 1) σ s19 := (e1.mo (by decide)).tr (q19.mo (by decide))
  have hT : cT s19 (lB true r1 r2).1 (lB true r1 r2).2.1 new := e2.sq f19 (by decide)
  have hZ' : cZ s19 T M := hZ.tw q hT (by decide) (fun o ho => by
    refine ⟨fun w => ?_, fun w => ?_⟩
    · have : ∀ p, p ∈ (twF ++ fF 1) → 2 ≤ p.1 ∨ p.2 = 1 := by decide
      have := this _ w
      dsimp only at this
      omega
    · have : ∀ p, p ∈ (twF ++ fF 1) → 2 ≤ p.1 ∨ p.2 = 1 := by decide
      have := this _ w
      dsimp only at this
      omega)
  rcases k3 with ⟨w1, w2, w3⟩ | ⟨w1, w2⟩
  · have er : twR true r1 r2 = cno [] (ex (lB true r1 r2).1 (lB true r1 r2).2.1 new (xA r1)) := rowE_eq a2 w3 a3.1 a3.2
    refine ⟨by omega, hq b s19 q hZ' (Or.inl ⟨w1, w2, ?_, fun j j0 j1 => ?_, ⟨new, w3⟩⟩)⟩
    · rw [er, cno_len]; exact r19.1
    · rw [er, cno_len] at j0
      rw [er]
      exact r19.2 j j0 j1
  · exact ⟨by omega, hq b s19 q hZ' (Or.inr ⟨w1, w2⟩)⟩
end ZTw
