/-! What was found is tied again, and its node made: the reference. -/
/-- a goal's frame, before it is left -/
def lvI (P : zP) (σ0 σ : jS) (s0 R1 : zS) (path β : List (Int × Int)) (x cl cu node : Int) (tr : Option (List zI)) : Prop :=
  (sq agF σ0 σ ∧ frK ((path.length : Nat) : Int) σ0 σ ∧ ndK (rs σ0 1064 0) σ0 σ ∧ kpp σ0 σ (hN s0)) ∧ mB σ P R1 path ∧ (rs σ 1098 0 = ((path.length : Nat) : Int) + 1 ∧ rs σ 1101 0 = 0) ∧
  (∀ j : Int, 0 ≤ j → j < rs σ0 1097 0 → ra σ 1095 0 j = ra σ0 1095 0 j ∧ ra σ 1096 0 j = ra σ0 1096 0 j) ∧
  (ra σ 1071 0 ((path.length : Nat) : Int) = x ∧ ra σ 1072 0 ((path.length : Nat) : Int) = cl ∧ ra σ 1073 0 ((path.length : Nat) : Int) = cu ∧ ra σ 1093 0 ((path.length : Nat) : Int) = rs σ0 1097 0) ∧
  (rs σ 1034 0 ≤ rs σ0 1034 0 + 60 + 120 * (sA R1 - sA s0) ∧ (rs σ0 1064 0 ≤ rs σ 1064 0 ∧ rs σ 1064 0 ≤ rs σ0 1064 0 + 1 + (sA R1 - sA s0))) ∧ (agr (hG s0) (hG R1) (hN s0) ∧ hN s0 ≤ hN R1) ∧ (nOk R1 ∧ sA s0 ≤ sA R1) ∧
  ∃ new, mT σ (hG R1) (hN R1) (new ++ β) ∧ rep (hG R1) (hN R1) (new ++ β) (hE R1) ∧ (tr = none → node = -1) ∧ ∀ t, tr = some t → (0 ≤ node ∧ nRs (rs σ 1064 0) σ [node] t) ∧ Kc (hG s0) (hN s0) β x (hG R1) (hN R1) new ∧ (expT (sM R1) t).length ≤ 200 ∧ ∀ m : Nat, .inr m ∈ t → ¬ memT (sM R1) m = []
section ZVb
variable {n : Nat} {σ0 σ σ1 : jS} {g : zH} {N : Int} {β : List (Int × Int)} {x cl cu cds lvl sc fl : Int} {P : zP} {s0 s : zS} {path : List (Int × Int)} {C : List Int} {o : Int × List zI × List (Int × Int)}
theorem t_leave7 {Q : jS → Prop} {f S : Int} {new : List (Int × Int)} (hn : 1 ≤ n) (f0 : 0 ≤ f) (f1 : f < 21) (hm : mln σ) (hH : mT σ g N β) (hb : bok g N (new ++ β)) (S0 : 0 ≤ S) (S1 : S + ((new.length : Nat) : Int) ≤ 20000) (v93 : ra σ 1093 0 f = S) (v94 : ra σ 1094 0 f = ((new.length : Nat) : Int)) (hv : ∀ j : Nat, (h : j < new.reverse.length) → ra σ 1095 0 (S + ((j : Nat) : Int)) = (new.reverse[j]).1 ∧ ra σ 1096 0 (S + ((j : Nat) : Int)) = (new.reverse[j]).2)
    (hq : ∀ σ', mT σ' g N (new ++ β) → sq [(1030, 0), (1032, 0), (1035, 0)] σ σ' → TrI (n - 1) i_Model_newNode [jo 1 0, ji f] σ' (fun z σ2 => TrV (n - 1) i_Model_leave [jo 1 0, ji f, ji z] σ2 Q)) :
    ∀ (d : Nat) (A B : List (Int × Int)) (σ1 : jS), A.length = d → new = A ++ B → mT σ1 g N (B ++ β) → sq [(1030, 0), (1032, 0), (1035, 0)] σ σ1 → J n c_Model_leaveFound none 7 [some (jo 1 0), some (ji f), some (ji (S + ((B.length : Nat) : Int)))] [] σ1 (qV Q) := by
  have l93 := mln_at hm 1093 21 (by decide)
  have l94 := mln_at hm 1094 21 (by decide)
  have l95 := mln_at hm 1095 20000 (by decide)
  have l96 := mln_at hm 1096 20000 (by decide)
  intro d
  induction d with
  | zero =>
    intro A B σ1 hA hAB h1 e1
    have eA : A = [] := List.length_eq_zero_iff.mp hA
    subst eA
    have eB : new = B := hAB
    subst eB
    refine wp_Model_leaveFound_7 ⟨by omega, by rw [e1.nrl 1093 0, l93]; omega, by omega, by rw [e1.nrl 1093 0, l93]; omega, by rw [e1.nrl 1094 0, l94]; omega, by rw [e1.nrl 1094 0, l94]; omega, ?_⟩
    rw [e1.nra 1093 0 _ (by decide), e1.nra 1094 0 _ (by decide), v93, v94, if_pos (by omega)]
    exact ⟨⟨by omega, by omega⟩, hn, hq σ1 h1 e1⟩
  | succ d ih =>
    intro A B σ1 hA hAB h1 e1
    rcases List.eq_nil_or_concat A with w | ⟨A', p, w⟩
    · rw [w] at hA; cases hA
    subst w
    rw [List.concat_eq_append] at hA hAB
    rw [List.length_append] at hA
    have hA' : A'.length = d := by
      have : ([p] : List (Int × Int)).length = 1 := rfl
      omega
    have hlen : new.length = A'.length + 1 + B.length := by rw [hAB]; simp; omega
    have hpj := hv B.length (by rw [List.length_reverse]; omega)
    have erev : new.reverse[B.length]'(by rw [List.length_reverse]; omega) = p := by
      have e2 : new.reverse = B.reverse ++ p :: A'.reverse := by rw [hAB]; simp
      have e3 : new.reverse[B.length]? = some p := by
        rw [e2, List.getElem?_append_right (by rw [List.length_reverse]; omega), List.length_reverse, Nat.sub_self]
        rfl
      obtain ⟨_, h3⟩ := List.getElem?_eq_some_iff.mp e3
      exact h3
    rw [erev] at hpj
    have hbp : bok g N (p :: (B ++ β)) := by
      have : new ++ β = A' ++ (p :: (B ++ β)) := by rw [hAB]; simp
      rw [this] at hb
      exact bok_app hb
    obtain ⟨p1, p2⟩ := p
    obtain ⟨⟨u0, u1, hu, t0, t1, hf⟩, -⟩ := hbp
    refine wp_Model_leaveFound_7 ⟨by omega, by rw [e1.nrl 1093 0, l93]; omega, by omega, by rw [e1.nrl 1093 0, l93]; omega, by rw [e1.nrl 1094 0, l94]; omega, by rw [e1.nrl 1094 0, l94]; omega, ?_⟩
    rw [e1.nra 1093 0 _ (by decide), e1.nra 1094 0 _ (by decide), v93, v94, if_neg (by omega), e1.nrl 1095 0, e1.nrl 1096 0, l95, l96, e1.nra 1095 0 _ (by decide), e1.nra 1096 0 _ (by decide), hpj.1, hpj.2]
    refine ⟨⟨by omega, by omega⟩, by omega, by omega, by omega, by omega, by omega, hn, t_tie h1 u0 u1 hu hf t0 t1 (fun σ' h' e' => ⟨⟨by omega, by omega⟩, ?_⟩)⟩
    have := ih A' ((p1, p2) :: B) σ' hA' (by rw [hAB]; simp) h' (e1.tr e')
    rw [List.length_cons] at this
    rw [show S + ((B.length : Nat) : Int) + 1 = S + ((B.length + 1 : Nat) : Int) by omega]
    exact this
theorem t_leaveFound {Q : jS → Prop} {r : Int → Bool} (hn : 3 ≤ n) (hd : path.length < 20) (x0 : 0 ≤ x) (x1 : x < hN s0) (hgs0 : gok s0) (hrep0 : rep (hG s0) (hN s0) β (hE s0)) (hxl : (ex (hG s0) (hN s0) β x).length ≤ 100) (hS97 : 0 ≤ rs σ0 1097 0) (hsv : rs σ0 1097 0 ≤ 100 * ((path.length : Nat) : Int) + zu (hG s0) (hN s0)) (hbz : (zu (hG s0) (hN s0) : Int) + 52 ≤ 12 + 52 * sA s0) (h64 : rs σ0 1064 0 + 1 ≤ 8200 + sA s0) (hC : C = (zrg (tG P.1)).filter r) (hF : fInv P σ0 σ s0 s path β x cl cu cds lvl sc C fl 24 (some o) none) (hne : ∀ m : Nat, .inr m ∈ o.2.1 → ¬ memT (sM s) m = [])
    (hq : ∀ z σ', lvI P σ0 σ' s0 ((hG s, hN s, o.2.2), s.2) path β x cl cu z (some (.inl (o.1, lvl, cds, fl, ((C.length : Nat) - ((bstL P.1 C).length : Nat) : Int), tN P.1 o.1, x, none) :: o.2.1)) → TrV (n - 1) i_Model_leave [jo 1 0, ji ((path.length : Nat) : Int), ji z] σ' Q) : TrV n i_Model_leaveFound [jo 1 0, ji ((path.length : Nat) : Int)] σ Q := by
  obtain ⟨⟨j1, j1b, j1c, j1d⟩, jB, ⟨j3, j3b⟩, ⟨j4, j4b, j4c, ⟨g1, g2, g3, g4, g5⟩, j4e, j4f⟩, ⟨j5, j5b, j5c, j5d⟩, ⟨j6, j6b, j6c, j6d, j6e, j6f, j6g⟩, ⟨j7, j7b⟩, j8, j9, j10⟩ := hF
  obtain ⟨o1, o2, o3, o4, o5, o6, o7, new, o8, o9, o10, o11, o12⟩ := j9
  have hKK := o12 (kx (hG s0) (hN s0) β x) (fun m hm => Or.inl hm) (kx_clo hgs0.1 hrep0.1 hrep0.2.1) (Or.inr (fun v _ hv => hv))
  have hnl := new_len (x := x) (new := new) hgs0.1 hrep0.1 hrep0.2.1 g3 g2 hgs0.2.1 x0 x1 o8.1 (fun p hp => (hKK.1 p hp).1)
  have hA200 := j4e.2.1
  have l93 := mln_at jB.1 1093 21 (by decide)
  refine wp_Model_leaveFound ⟨by omega, by omega, by omega, by omega, ?_⟩
  rw [j5d]
  have hlv := jB.2.2.2.2.2.2.2.1
  have key := t_leave7 (Q := Q) (n := n) (f := ((path.length : Nat) : Int)) (S := rs σ0 1097 0) (new := new) (σ := σ) (by omega) (by omega) (by omega) jB.1 j4 o8.1 hS97 (by omega) j5d o9 o11 (fun σ1 h1 e1 => ?_) new.length new [] σ rfl (List.append_nil _).symm j4 (sq.rf _ σ)
  · rw [show rs σ0 1097 0 + ((([] : List (Int × Int)).length : Nat) : Int) = rs σ0 1097 0 by simp] at key
    exact key
  have B1 : mB σ1 P s path := jB.sq e1 (by decide)
  have e64 : rs σ1 1064 0 = rs σ 1064 0 := e1.nrs 1064 0 (by decide)
  have ndk1 : ndK (rs σ 1064 0) σ σ1 := e1.ndK (by decide)
  have ek : kfL σ1 1092 ((path.length : Nat) : Int) (tN P.1 o.1).toNat = kfL σ 1092 ((path.length : Nat) : Int) (tN P.1 o.1).toNat := by
    unfold kfL
    exact List.map_congr_left (fun j _ => e1.nra 1092 0 _ (by decide))
  refine t_newNode (g := o.1) (lvl := lvl) (cds := cds) (fl := fl) (x := x) (t := o.2.1) (by omega) B1 (by rw [e64]; omega) (by omega) (by omega) o3.1 o3.2 (by rw [e1.nra 1090 0 _ (by decide)]; exact o2) (by rw [e1.nra 1075 0 _ (by decide)]; exact j6b) (by rw [e1.nra 1077 0 _ (by decide)]; exact j6c) (by rw [e1.nra 1078 0 _ (by decide)]; exact j6d) (by rw [e1.nra 1071 0 _ (by decide)]; exact j5) hC (by rw [e1.nra 1076 0 _ (by decide)]; exact j7) (by rw [e1.nra 1079 0 _ (by decide)]; exact j7b) ?_ hne (by omega) (fun σ2 w2 r64 hnd => hq _ σ2 ?_)
  · rw [ek, e64]
    exact nRs_K ndk1 o4
  · have q2 := w2.1
    have hmB := mB_mM B1
    have ndk2 : ndK (rs σ 1064 0) σ1 σ2 := w2.ndK (by omega) (Or.inr (by omega))
    rw [e64] at r64 hnd
    have hmM : mMem σ2 (sM s) := B1.2.2.2.2.2.1.K (ndk2.mo (by omega) : ndK 8200 σ1 σ2) (Int.le_refl _) (q2.nrs 1063 0 (by decide)) (q2.nrs 1065 0 (by decide)) (q2.nrs 1070 0 (by decide))
    refine ⟨⟨(j1.tr (e1.mo (by decide))).tr (q2.mo (by decide)), (j1b.tr (e1.frK (by decide))).tr (q2.frK (by decide)), (j1c.tr (ndk1.mo o5.1)).tr (ndk2.mo o5.1), (j1d.tr (kpp.of e1 (by decide)) (Int.le_refl _)).tr (kpp.of (N := hN s0) q2 (by decide)) (Int.le_refl _)⟩, ?_, ⟨?_, ?_⟩, fun j y0 y1 => ?_, ⟨?_, ?_, ?_, ?_⟩, ⟨?_, ?_⟩, ⟨g3, g2⟩, ⟨j4e, j4f⟩, new, (h1.sq q2 (by decide)), o8, fun w => (by cases w), fun t ht => ?_⟩
    · obtain ⟨z1, z2, z3, z4, z5, z6, z7, z8, z9⟩ := B1
      refine ⟨z1.sq q2, z2.sq q2 (by decide), ?_, ?_, ?_, hmM, ?_, ⟨by omega, ?_⟩, ?_⟩
      · rw [q2.nrs 1015 0 (by decide), q2.nrs 1016 0 (by decide), q2.nrs 1108 0 (by decide), q2.nrs 1100 0 (by decide)]; exact z3
      · rw [q2.nrs 1103 0 (by decide), q2.nrs 1104 0 (by decide), q2.nrs 1105 0 (by decide), q2.nrs 1106 0 (by decide), q2.nrs 1107 0 (by decide)]; exact z4
      · rw [q2.nraf 1081 0 (by decide), q2.nraf 1071 0 (by decide)]; exact z5
      · rw [q2.nrs 1099 0 (by decide)]; exact z7
      · rw [r64]; show rs σ 1064 0 + 1 ≤ 8200 + sA s; omega
      · rw [q2.nrs 1097 0 (by decide)]; exact z9
    · rw [q2.nrs 1098 0 (by decide), e1.nrs 1098 0 (by decide)]; exact j3
    · rw [q2.nrs 1101 0 (by decide), e1.nrs 1101 0 (by decide)]; exact j3b
    · rw [q2.nra 1095 0 _ (by decide), q2.nra 1096 0 _ (by decide), e1.nra 1095 0 _ (by decide), e1.nra 1096 0 _ (by decide)]; exact j8 j y0 y1
    · rw [q2.nra 1071 0 _ (by decide), e1.nra 1071 0 _ (by decide)]; exact j5
    · rw [q2.nra 1072 0 _ (by decide), e1.nra 1072 0 _ (by decide)]; exact j5b
    · rw [q2.nra 1073 0 _ (by decide), e1.nra 1073 0 _ (by decide)]; exact j5c
    · rw [q2.nra 1093 0 _ (by decide), e1.nra 1093 0 _ (by decide)]; exact j5d
    · rw [q2.nrs 1034 0 (by decide), e1.nrs 1034 0 (by decide)]; exact o6
    · rw [r64]; show rs σ0 1064 0 ≤ rs σ 1064 0 + 1 ∧ rs σ 1064 0 + 1 ≤ rs σ0 1064 0 + 1 + (sA s - sA s0); omega
    · have et : (.inl (o.1, lvl, cds, fl, ((C.length : Nat) - ((bstL P.1 C).length : Nat) : Int), tN P.1 o.1, x, none) :: o.2.1 : List zI) = t := by cases ht; rfl
      subst et
      refine ⟨⟨by rw [e64]; omega, by rw [r64, e64]; exact hnd⟩, o12, ?_, fun m hm => ?_⟩
      · show (expT (sM s) _).length ≤ 200
        rw [expT_inl, List.length_cons]; exact o7
      · cases hm with
        | tail _ hm => exact hne m hm
end ZVb
