/-! A given one did well: the reference. -/
/-- the first one that did well, and another -/
def oneM (P : zP) (σ0 σ : jS) (s0 s : zS) (β : List (Int × Int)) (x f : Int) (one : Option (Int × List zI × List (Int × Int))) (another : Option Int) : Prop := match one with
  | none => another = none ∧ ra σ 1089 0 f = 0 ∧ rs σ 1097 0 = rs σ0 1097 0 ∧ rs σ 1064 0 = rs σ0 1064 0 ∧ rs σ 1034 0 = rs σ0 1034 0
  | some o => (match another with
      | none => ra σ 1089 0 f = 1
      | some b => 2 ≤ ra σ 1089 0 f ∧ ra σ 1091 0 f = b) ∧ ra σ 1090 0 f = o.1 ∧ (0 ≤ o.1 ∧ o.1 < tG P.1) ∧ nRs (rs σ 1064 0) σ (kfL σ 1092 f (tN P.1 o.1).toNat) o.2.1 ∧ (rs σ0 1064 0 ≤ rs σ 1064 0 ∧ rs σ 1064 0 ≤ rs σ0 1064 0 + (sA s - sA s0)) ∧ rs σ 1034 0 ≤ rs σ0 1034 0 + 60 + 120 * (sA s - sA s0) ∧ (expT (sM s) o.2.1).length + 1 ≤ 200 ∧ ∃ new, rep (hG s) (hN s) (new ++ β) o.2.2 ∧ ra σ 1094 0 f = ((new.length : Nat) : Int) ∧ rs σ 1097 0 = rs σ0 1097 0 + ((new.length : Nat) : Int) ∧ (∀ j : Nat, (h : j < new.reverse.length) → ra σ 1095 0 (rs σ0 1097 0 + ((j : Nat) : Int)) = (new.reverse[j]).1 ∧ ra σ 1096 0 (rs σ0 1097 0 + ((j : Nat) : Int)) = (new.reverse[j]).2) ∧ Kc (hG s0) (hN s0) β x (hG s) (hN s) new
/-- a goal's frame, between two of the best -/
def fInv (P : zP) (σ0 σ : jS) (s0 s : zS) (path β : List (Int × Int)) (x cl cu cds lvl sc : Int) (C : List Int) (fl : Int) (i : Nat) (one : Option (Int × List zI × List (Int × Int))) (another : Option Int) : Prop :=
  (sq agF σ0 σ ∧ frK ((path.length : Nat) : Int) σ0 σ ∧ ndK (rs σ0 1064 0) σ0 σ ∧ kpp σ0 σ (hN s0)) ∧ mB σ P s path ∧ (rs σ 1098 0 = ((path.length : Nat) : Int) + 1 ∧ rs σ 1101 0 = 0) ∧
  (mT σ (hG s) (hN s) β ∧ rep (hG s) (hN s) β (hE s) ∧ gok s ∧ bI s0 s one ∧ nOk s ∧ sA s0 ≤ sA s) ∧
  (ra σ 1071 0 ((path.length : Nat) : Int) = x ∧ ra σ 1072 0 ((path.length : Nat) : Int) = cl ∧ ra σ 1073 0 ((path.length : Nat) : Int) = cu ∧ ra σ 1093 0 ((path.length : Nat) : Int) = rs σ0 1097 0) ∧
  (ra σ 1074 0 ((path.length : Nat) : Int) = sc ∧ ra σ 1075 0 ((path.length : Nat) : Int) = lvl ∧ ra σ 1077 0 ((path.length : Nat) : Int) = cds ∧ ra σ 1078 0 ((path.length : Nat) : Int) = fl ∧ ra σ 1080 0 ((path.length : Nat) : Int) = ((i : Nat) : Int) ∧ 0 ≤ ra σ 1089 0 ((path.length : Nat) : Int) ∧ ra σ 1089 0 ((path.length : Nat) : Int) ≤ ((i : Nat) : Int)) ∧
  (bse (ra σ 1076 0 ((path.length : Nat) : Int)) (fun c => c ∈ C) ∧ bse (ra σ 1079 0 ((path.length : Nat) : Int)) (fun c => c ∈ bstL P.1 C)) ∧
  (∀ j : Int, 0 ≤ j → j < rs σ0 1097 0 → ra σ 1095 0 j = ra σ0 1095 0 j ∧ ra σ 1096 0 j = ra σ0 1096 0 j) ∧ oneM P σ0 σ s0 s β x ((path.length : Nat) : Int) one another ∧ 0 ≤ fl
section ZSa
variable {n : Nat} {σ0 σb σ σ1 : jS} {β nw : List (Int × Int)} {x k cl cu cds lvl sc fl : Int} {P : zP} {s0 s s1 : zS} {path : List (Int × Int)} {C nodes : List Int} {acc : List zI} {i : Nat} {one : Option (Int × List zI × List (Int × Int))} {another : Option Int}
/-- live nodes and what is saved have changed -/
theorem mB_two {l : List (Nat × Int)} (h : mB σ P s path) (e : sq l σ σ1) (hl : (mBF.all (fun p => !l.contains p || p.1 == 1064 || p.1 == 1097)) = true) (h64 : 8200 ≤ rs σ1 1064 0 ∧ rs σ1 1064 0 ≤ 8200 + sA s) (h97 : 0 ≤ rs σ1 1097 0) : mB σ1 P s path := by
  have hm : ∀ p, p ∈ mBF → ¬ p.1 = 1064 → ¬ p.1 = 1097 → l.contains p = false := fun p hp h1 h2 => by
    have := List.all_eq_true.mp hl p hp
    have e1 : (p.1 == 1064) = false := by simpa using h1
    have e2 : (p.1 == 1097) = false := by simpa using h2
    rw [e1, e2] at this
    simpa using this
  obtain ⟨h1, h2, h3, h4, h5, h6, h7, h8, h9⟩ := h
  unfold mB
  rw [e.nrs 1015 0 (hm _ (by decide) (by decide) (by decide)), e.nrs 1016 0 (hm _ (by decide) (by decide) (by decide)), e.nrs 1108 0 (hm _ (by decide) (by decide) (by decide)), e.nrs 1100 0 (hm _ (by decide) (by decide) (by decide)), e.nrs 1103 0 (hm _ (by decide) (by decide) (by decide)), e.nrs 1104 0 (hm _ (by decide) (by decide) (by decide)), e.nrs 1105 0 (hm _ (by decide) (by decide) (by decide)), e.nrs 1106 0 (hm _ (by decide) (by decide) (by decide)), e.nrs 1107 0 (hm _ (by decide) (by decide) (by decide)), e.nraf 1081 0 (hm _ (by decide) (by decide) (by decide)), e.nraf 1071 0 (hm _ (by decide) (by decide) (by decide)), e.nrs 1099 0 (hm _ (by decide) (by decide) (by decide))]
  refine ⟨h1.sq e, h2.sq e (List.all_eq_true.mpr (fun p hp => ?_)), h3, h4, h5, h6.K (e.ndK (L := 8200) (List.all_eq_true.mpr (fun p hp => ?_))) (Int.le_refl _) (e.nrs 1063 0 (hm _ (by decide) (by decide) (by decide))) (e.nrs 1065 0 (hm _ (by decide) (by decide) (by decide))) (e.nrs 1070 0 (hm _ (by decide) (by decide) (by decide))), h7, h64, h97⟩
  · have : ∀ p, p ∈ ([(1008, 0), (1009, 0), (1010, 0), (1011, 0), (1012, 0), (1013, 0), (1014, 0), (1026, 0)] : List (Nat × Int)) → p ∈ mBF ∧ ¬ p.1 = 1064 ∧ ¬ p.1 = 1097 := by decide
    rw [hm p (this p hp).1 (this p hp).2.1 (this p hp).2.2]; rfl
  · have : ∀ p, p ∈ ([(1052, 0), (1053, 0), (1054, 0), (1055, 0), (1056, 0), (1057, 0), (1058, 0), (1059, 0), (1060, 0), (1061, 0), (1062, 0), (1063, 0), (1065, 0), (1066, 0), (1067, 0), (1068, 0), (1069, 0), (1070, 0)] : List (Nat × Int)) → p ∈ mBF ∧ ¬ p.1 = 1064 ∧ ¬ p.1 = 1097 := by decide
    rw [hm p (this p hp).1 (this p hp).2.1 (this p hp).2.2]; rfl
theorem mB_mM (h : mB σ P s path) : rs σ 1063 0 ≤ 8000 := by
  have h6 := h.2.2.2.2.2.1
  have := h6.2.1
  have := h6.2.2.2.1.2
  omega
/-- what was put since the mark is written down -/
theorem t_save154 {Q : jS → Prop} {g : zH} {N f S0 : Int} (hn : 1 ≤ n) (hd0 : 0 ≤ f) (hd1 : f < 21) (h : mT σ g N (nw ++ β)) (hmk : ra σ 1084 0 f = ((β.length : Nat) : Int)) (hS : rs σ 1097 0 = S0) (hS0 : 0 ≤ S0) (hSb : S0 + ((nw.length : Nat) : Int) ≤ 19999)
    (hq : ∀ σ', mT σ' g N (nw ++ β) → sq [(1095, 0), (1096, 0), (1097, 0)] σ σ' → rs σ' 1097 0 = S0 + ((nw.length : Nat) : Int) → (∀ j : Int, j < S0 → ra σ' 1095 0 j = ra σ 1095 0 j ∧ ra σ' 1096 0 j = ra σ 1096 0 j) → (∀ j : Nat, (hj : j < nw.reverse.length) → ra σ' 1095 0 (S0 + ((j : Nat) : Int)) = (nw.reverse[j]).1 ∧ ra σ' 1096 0 (S0 + ((j : Nat) : Int)) = (nw.reverse[j]).2) → TrV (n - 1) i_Model_untie [jo 1 0, ji ((β.length : Nat) : Int)] σ' Q) : J n c_Model_didWell none 154 [some (jo 1 0), some (ji f), none, some (ji ((β.length : Nat) : Int))] [] σ (qV Q) := by
  have hrl : nw.reverse.length = nw.length := List.length_reverse
  have hz := h.2.1
  have hbk := h.2.2.1
  have hE := h.2.2.2.2.2.2.2.2.2.2.2.1
  have hL : (((nw ++ β).length : Nat) : Int) = ((nw.length : Nat) : Int) + ((β.length : Nat) : Int) := by rw [List.length_append]; omega
  have loop : ∀ (d j : Nat) (σ1 : jS), j + d = nw.length → sq [(1095, 0), (1096, 0), (1097, 0)] σ σ1 → rs σ1 1097 0 = S0 + ((j : Nat) : Int) → (∀ y : Int, y < S0 → ra σ1 1095 0 y = ra σ 1095 0 y ∧ ra σ1 1096 0 y = ra σ 1096 0 y) → (∀ y : Nat, (hy : y < nw.reverse.length) → y < j → ra σ1 1095 0 (S0 + ((y : Nat) : Int)) = (nw.reverse[y]).1 ∧ ra σ1 1096 0 (S0 + ((y : Nat) : Int)) = (nw.reverse[y]).2) → J n c_Model_didWell none 154 [some (jo 1 0), some (ji f), none, some (ji (((β.length : Nat) : Int) + ((j : Nat) : Int)))] [] σ1 (qV Q) := by
    intro d
    induction d with
    | zero =>
      intro j σ1 hj f1 c1 c2 c3
      have l84 := mln_at (h.1.sq f1) 1084 21 (by decide)
      refine wp_Model_didWell_154 ⟨by omega, ?_⟩
      rw [f1.nrs 1035 0 (by decide), hE, if_pos (by omega), l84, f1.nra 1084 0 f (by decide), hmk]
      have ej : j = nw.length := by omega
      rw [ej] at c1
      exact ⟨by omega, hd0, hd1, hn, hq σ1 (h.sq f1 (by decide)) f1 c1 c2 (fun y hy => c3 y hy (by omega))⟩
    | succ d ih =>
      intro j σ1 hj f1 c1 c2 c3
      have hm1 := h.1.sq f1
      have l95 := mln_at hm1 1095 20000 (by decide)
      have l96 := mln_at hm1 1096 20000 (by decide)
      have l32 := mln_at hm1 1032 20000 (by decide)
      have l30 := mln_at hm1 1030 40000 (by decide)
      have hjr : j < nw.reverse.length := by omega
      have htr := trl_get h.2.2.2.2.2.2.2.2.2.2.2.2 j hjr
      have hmem : nw.reverse[j] ∈ nw := List.mem_reverse.mp (List.getElem_mem hjr)
      have hbl := bl_len hbk
      have hzu := h.2.2.2.2.2.2.1

      generalize hp : nw.reverse[j] = p at htr hmem
      obtain ⟨u, t⟩ := p
      have hu := bl_mem hbk (List.mem_append_left β hmem)
      have hbu : ¬ bl (nw ++ β) u = -1 := by
        have := bok_snd hbk _ (List.mem_append_left β hmem)
        dsimp only at this
        omega
      obtain ⟨u0, u1, u2, u3, u4⟩ := bok_at hbk hbu
      have h30 := h.2.2.2.2.2.2.2.2.2.2.1 u u0 u1 u2
      have hN4 := h.2.2.2.2.2.1
      have htr' : ra σ1 1032 0 (((β.length : Nat) : Int) + ((j : Nat) : Int)) = u := by
        rw [f1.nra 1032 0 _ (by decide), show ((β.length : Nat) : Int) + ((j : Nat) : Int) = ((β.length + j : Nat) : Int) by omega]
        exact htr
      refine wp_Model_didWell_154 ⟨by omega, ?_⟩
      rw [f1.nrs 1035 0 (by decide), hE, if_neg (by omega), l95, l32, c1, htr']
      refine ⟨by omega, by omega, by omega, by omega, by omega, by omega, fun s12 e12 => ?_⟩
      have f12 : sq [(1095, 0), (1096, 0), (1097, 0)] σ s12 := by rw [e12]; exact f1.pwa 1095 0 _ _ (by decide)
      have v97 : rs s12 1097 0 = S0 + ((j : Nat) : Int) := by rw [e12]; exact c1
      have v32 : ra s12 1032 0 (((β.length : Nat) : Int) + ((j : Nat) : Int)) = u := by rw [e12]; exact htr'
      have v30 : ra s12 1030 0 u = t := by
        rw [f12.nra 1030 0 u (by decide), h30, hu]
      rw [f12.nrl 1096 0, f12.nrl 1030 0, f12.nrl 1032 0, mln_at h.1 1096 20000 (by decide), mln_at h.1 1030 40000 (by decide), mln_at h.1 1032 20000 (by decide), v32, v97, v30]
      refine ⟨by omega, by omega, by omega, by omega, by omega, by omega, by omega, by omega, fun s21 e21 => ?_⟩
      have f21 : sq [(1095, 0), (1096, 0), (1097, 0)] σ s21 := by rw [e21]; exact f12.pwa 1096 0 _ _ (by decide)
      have w97 : rs s21 1097 0 = S0 + ((j : Nat) : Int) := by rw [e21]; exact v97
      rw [w97]
      refine ⟨⟨by omega, by omega⟩, fun s25 e25 => ⟨⟨by omega, by omega⟩, ?_⟩⟩
      have f25 : sq [(1095, 0), (1096, 0), (1097, 0)] σ s25 := by rw [e25]; exact f21.pws 1097 0 _ (by decide)
      have r95 : ra s25 1095 0 = upI (ra σ1 1095 0) (S0 + ((j : Nat) : Int)) u := by rw [e25, e21, e12]; rfl
      have r96 : ra s25 1096 0 = upI (ra σ1 1096 0) (S0 + ((j : Nat) : Int)) t := by rw [e25, e21, e12]; rfl
      rw [show ((β.length : Nat) : Int) + ((j : Nat) : Int) + 1 = ((β.length : Nat) : Int) + ((j + 1 : Nat) : Int) by omega]
      refine ih (j + 1) s25 (by omega) f25 (by rw [e25, rs_ws, if_pos ⟨rfl, rfl⟩]; omega) (fun y hy => ?_) (fun y hy hyj => ?_)
      · rw [r95, r96]
        unfold upI
        rw [if_neg (by omega), if_neg (by omega)]
        exact c2 y hy
      · rw [r95, r96]
        unfold upI
        by_cases w : y = j
        · subst w
          rw [if_pos rfl, if_pos rfl, hp]
          exact ⟨rfl, rfl⟩
        · rw [if_neg (by omega), if_neg (by omega)]
          exact c3 y hy (by omega)
  have := loop nw.length 0 σ (by omega) (sq.rf _ σ) (by rw [hS]; omega) (fun _ _ => ⟨rfl, rfl⟩) (fun y _ hy => absurd hy (Nat.not_lt_zero y))
  rw [show ((β.length : Nat) : Int) + ((0 : Nat) : Int) = ((β.length : Nat) : Int) by omega] at this
  exact this
set_option maxRecDepth 8000 in
theorem t_didWell {Q : jS → Prop} (hn : 3 ≤ n) (hd : path.length < 20) (hT : tok P.1) (k0 : 0 ≤ k) (k1 : k < tG P.1) (x0 : 0 ≤ x) (x1 : x < hN s0) (hgs0 : gok s0) (hrep0 : rep (hG s0) (hN s0) β (hE s0)) (hzu0 : zu (hG s) (hN s) ≤ 20000) (hxl : (ex (hG s0) (hN s0) β x).length ≤ 100) (hF : fInv P σ0 σb s0 s path β x cl cu cds lvl sc C fl (i + 1) one another) (hw : ra σb 1089 0 ((path.length : Nat) : Int) ≤ ((i : Nat) : Int)) (hi : i < 24) (hI : nInv P σb σ s s1 path β nw k x nodes.length nodes acc) (hg : gon s s1 1) (hnd : nodes.length = (tN P.1 k).toNat)
    (hne : ∀ m : Nat, .inr m ∈ acc → ¬ memT (sM s1) m = []) (hS97 : 0 ≤ rs σ0 1097 0) (hsv : rs σ0 1097 0 ≤ 100 * ((path.length : Nat) : Int) + zu (hG s0) (hN s0)) (hgro : hN s1 ≤ hN s + 60 + 120 * (sA s1 - sA s) ∧ (zu (hG s1) (hN s1) : Int) ≤ zu (hG s) (hN s) + 26 + 52 * (sA s1 - sA s)) (hz1 : (zu (hG s1) (hN s1) : Int) ≤ 12 + 52 * sA s1)
    (cBig : 200 < (expT (sM s1) acc).length + 1 → ∀ σ', mErr σ0 σ' (s1, 6, none, noQ) → Q σ')
    (cOne : ¬ 200 < (expT (sM s1) acc).length + 1 → one = none → ∀ σ', fInv P σ0 σ' s0 ((hG s1, hN s1, hE s), s1.2) path β x cl cu cds lvl sc C fl (i + 1) (some (k, acc, hE s1)) none → Q σ')
    (cTwo : ¬ 200 < (expT (sM s1) acc).length + 1 → ∀ o, one = some o → ∀ σ', fInv P σ0 σ' s0 (spBack s s1) path β x cl cu cds lvl sc C fl (i + 1) one (some (another.getD k)) → Q σ') : TrV n i_Model_didWell [jo 1 0, ji ((path.length : Nat) : Int)] σ Q := by
  have hI0 := hI
  obtain ⟨⟨i1, i1b, i1c, i1d⟩, hB, ⟨i3, i3b⟩, ⟨i4, i4b, i4c, i4d⟩, ⟨i5, i5b, i5c⟩, ⟨i6, i6b⟩, ⟨i7, i7b⟩, i8, ⟨i9, i9b⟩, ⟨i10, i10b⟩, i11, i12, i13⟩ := hI
  obtain ⟨⟨j1, j1b, j1c, j1d⟩, jB, ⟨j3, j3b⟩, ⟨j4, j4b, j4c, j4d, j4e, j4f⟩, ⟨j5, j5b, j5c, j5d⟩, ⟨j6, j6b, j6c, j6d, j6e, j6f, j6g⟩, ⟨j7, j7b⟩, j8, j9, j10⟩ := hF
  have hlp : (path ++ [(k, x)]).length = path.length + 1 := by simp
  have hmB := mB_mM hB
  have hlv := hB.2.2.2.2.2.2.2.1
  have hA1 := i4d.2.1
  have hgk := hT.2.2.2.2.2 k k0 k1
  have hN4 := hgk.2.2.2.1
  have hN0 := hgk.2.2.1
  have l82 := mln_at hB.1 1082 21 (by decide)
  have l59 := mln_at hB.1 1059 8420 (by decide)
  have l88 := mln_at hB.1 1088 84 (by decide)
  have l89 := mln_at hB.1 1089 21 (by decide)
  have l90 := mln_at hB.1 1090 21 (by decide)
  have l91 := mln_at hB.1 1091 21 (by decide)
  have l81 := mln_at hB.1 1081 21 (by decide)
  have l92 := mln_at hB.1 1092 84 (by decide)
  have l94 := mln_at hB.1 1094 21 (by decide)
  have l84 := mln_at hB.1 1084 21 (by decide)
  have hsum := nAll hB.2.2.2.2.2.1 i11 hne
  have hrng := nRs_rng (by omega) (by omega) i11
  have jlv := jB.2.2.2.2.2.2.2.1
  have hF89 : ra σ 1089 0 ((path.length : Nat) : Int) = ra σb 1089 0 ((path.length : Nat) : Int) := i6 1089 (by decide)
  have e81 := (hB.2.2.2.2.1 path.length (by rw [hlp]; omega)).1
  have e81' : ra σ 1081 0 ((path.length : Nat) : Int) = k := by rw [e81]; simp
  -- behind the sum
  have fin : J n c_Model_didWell none 4 [some (jo 1 0), some (ji ((path.length : Nat) : Int)), some (ji (1 + (((expT (sM s1) acc).length : Nat) : Int))), some (ji ((nodes.length : Nat) : Int))] [] σ (qV Q) := by
    refine wp_Model_didWell_4 ⟨by omega, by omega, by omega, by omega, ?_⟩
    rw [i7, if_pos (by omega)]
    by_cases qb : 200 < (expT (sM s1) acc).length + 1
    · rw [if_neg (by omega)]
      intro s41 e41
      have f41 : sq [(1099, 0)] σ s41 := by rw [e41]; exact (sq.rf _ σ).pws 1099 0 _ (by decide)
      refine cBig qb s41 ⟨(j1.tr i1).tr (f41.mo (by decide)), by rw [e41, rs_ws, if_pos ⟨rfl, rfl⟩], ?_, hB.2.2.2.2.2.1.K (f41.ndK (L := 8200) (by decide)) (Int.le_refl _) (f41.nrs 1063 0 (by decide)) (f41.nrs 1065 0 (by decide)) (f41.nrs 1070 0 (by decide)), fun w => absurd w (by show ¬ (6 : Int) = 2; decide)⟩
      rw [f41.nrs 1103 0 (by decide), f41.nrs 1104 0 (by decide), f41.nrs 1105 0 (by decide), f41.nrs 1106 0 (by decide), f41.nrs 1107 0 (by decide)]
      exact hB.2.2.2.1
    · rw [if_pos (by omega), hF89]
      refine ⟨by omega, by omega, ⟨by omega, by omega⟩, fun s8 e8 => ?_⟩
      have f8 : sq [(1089, 0)] σ s8 := by rw [e8]; exact (sq.rf _ σ).pwa 1089 0 _ _ (by decide)
      have K8 : frK ((path.length : Nat) : Int) σ s8 := by rw [e8]; exact frK_up (frK.rf _ _) (by decide) (Int.le_refl _)
      have r8 : ra s8 1089 0 ((path.length : Nat) : Int) = ra σb 1089 0 ((path.length : Nat) : Int) + 1 := by
        rw [e8]
        unfold wa
        rw [raf_wA, if_pos ⟨rfl, rfl⟩]
        unfold upI
        rw [if_pos rfl]
      clear e8
      rw [f8.nrl 1089 0, l89, r8]
      refine ⟨by omega, by omega, ?_⟩
      cases one with
      | none =>
        obtain ⟨o1, o2, o3, o4, o5⟩ := j9
        obtain ⟨g1, g2, g3, g4, g5, g6⟩ := j4d
        have es1 : hG s = hG s0 := g5
        have es2 : hN s = hN s0 := g6
        rw [if_pos (by omega), f8.nrl 1090 0, f8.nrl 1081 0, l90, l81]
        refine ⟨by omega, by omega, by omega, by omega, fun s14 e14 => ?_⟩
        have f14 : sq [(1089, 0), (1090, 0)] σ s14 := by rw [e14]; exact (f8.mo (by decide)).pwa 1090 0 _ _ (by decide)
        have K14 : frK ((path.length : Nat) : Int) σ s14 := by rw [e14]; exact frK_up K8 (by decide) (Int.le_refl _)
        have r14 : ra s14 1090 0 ((path.length : Nat) : Int) = k := by
          rw [e14]
          unfold wa
          rw [raf_wA, if_pos ⟨rfl, rfl⟩]
          unfold upI
          rw [if_pos rfl, f8.nra 1081 0 _ (by decide)]
          exact e81'
        have r14' : ra s14 1089 0 ((path.length : Nat) : Int) = ra σb 1089 0 ((path.length : Nat) : Int) + 1 := by rw [e14]; exact r8
        clear e14
        rw [f14.nrl 1088 0, f14.nrl 1092 0, l88, l92]
        refine ⟨by omega, ⟨by omega, by omega⟩, by omega, by omega, t_copy (m := 4) rfl rfl (by decide) (by decide) (by omega) (by rw [f14.nrl 1088 0, l88]; omega) (by omega) (by rw [f14.nrl 1092 0, l92]; omega) (by rw [f14.nrl 1088 0, l88]; omega) (by rw [f14.nrl 1092 0, l92]; omega) (fun s20 f20 r20 => ?_)⟩
        have f20' : sq [(1089, 0), (1090, 0), (1092, 0)] σ s20 := (f14.mo (by decide)).tr (f20.mo (by decide))
        have K20 : frK ((path.length : Nat) : Int) σ s20 := K14.tr ⟨fun F hF i _ => f20.nra F 0 i (by
          have : ∀ F, F ∈ fr1 → ([(1092, 0)] : List (Nat × Int)).contains (F, 0) = false := by decide
          exact this F hF), fun F hF i hi => by
          by_cases w : F = 1092
          · rw [w, r20 i, if_neg (by omega)]
          · exact f20.nra F 0 i (by simp [w])⟩
        have e35 : rs s20 1035 0 = ((nw.length : Nat) : Int) + ((β.length : Nat) : Int) := by
          rw [f20'.nrs 1035 0 (by decide), i4.2.2.2.2.2.2.2.2.2.2.2.1, List.length_append]
          omega
        have hbl := bl_len i4.2.2.1
        rw [List.length_append] at hbl
        have hzz := i4.2.2.2.2.2.2.1
        have e84 : ra s20 1084 0 ((path.length : Nat) : Int) = ((β.length : Nat) : Int) := by rw [f20'.nra 1084 0 _ (by decide)]; exact i8.1
        rw [f20'.nrl 1094 0, f20'.nrl 1084 0, l94, l84, e35, e84]
        refine ⟨by omega, by omega, by omega, ⟨by omega, by omega⟩, by omega, fun s26 e26 => ?_⟩
        have f26 : sq [(1089, 0), (1090, 0), (1092, 0), (1094, 0)] σ s26 := by rw [e26]; exact (f20'.mo (by decide)).pwa 1094 0 _ _ (by decide)
        have K26 : frK ((path.length : Nat) : Int) σ s26 := by rw [e26]; exact frK_up K20 (by decide) (Int.le_refl _)
        have r26 : ra s26 1094 0 ((path.length : Nat) : Int) = ((nw.length : Nat) : Int) := by
          rw [e26]
          unfold wa
          rw [raf_wA, if_pos ⟨rfl, rfl⟩]
          unfold upI
          rw [if_pos rfl]
          omega
        have r26' : ra s26 1090 0 ((path.length : Nat) : Int) = k := by
          rw [e26]
          show ra s20 1090 0 _ = k
          rw [f20.nra 1090 0 _ (by decide)]
          exact r14
        have r26'' : ra s26 1089 0 ((path.length : Nat) : Int) = ra σb 1089 0 ((path.length : Nat) : Int) + 1 := by
          rw [e26]
          show ra s20 1089 0 _ = _
          rw [f20.nra 1089 0 _ (by decide)]
          exact r14'
        have r92 : ∀ j : Nat, j < 4 → ra s26 1092 0 (4 * ((path.length : Nat) : Int) + ((j : Nat) : Int)) = ra σ 1088 0 (4 * ((path.length : Nat) : Int) + ((j : Nat) : Int)) := fun j hj => by
          rw [e26]
          show ra s20 1092 0 _ = _
          rw [r20, if_pos (by omega), f14.nra 1088 0 _ (by decide)]
          congr 1
          omega
        clear e26
        have e84b : ra s26 1084 0 ((path.length : Nat) : Int) = ((β.length : Nat) : Int) := by rw [f26.nra 1084 0 _ (by decide)]; exact i8.1
        rw [f26.nrl 1084 0, l84, e84b]
        -- how many have been put
        have hnl : ((nw.length : Nat) : Int) ≤ 100 + ((zu (hG s1) (hN s1) : Int) - zu (hG s0) (hN s0)) := by
          have hKK := i12 (kx (hG s) (hN s) β x) (fun m hm => Or.inl hm) (by rw [es1, es2]; exact kx_clo hgs0.1 hrep0.1 hrep0.2.1) (Or.inr (fun v _ hv => hv))
          rw [es1, es2] at hKK i5
          rw [es2] at i5b
          have := new_len (x := x) (new := nw) hgs0.1 hrep0.1 hrep0.2.1 i5 i5b hgs0.2.1 x0 x1 i4.2.2.1 (fun p hp => (hKK.1 p hp).1)
          omega
        have h97 : rs s26 1097 0 = rs σ0 1097 0 := by rw [f26.nrs 1097 0 (by decide), i9, o3]
        have h97p := jB.2.2.2.2.2.2.2.2
        refine ⟨by omega, by omega, t_save154 (S0 := rs σ0 1097 0) (by omega) (by omega) (by omega) (i4.sq f26 (by decide)) e84b h97 (by omega) (by omega) (fun s27 t27 f27 v97 v9 v9s => ?_)⟩
        refine wp_Model_untie (t_untie nw s27 t27 (fun s28 t28 f28 => cOne qb rfl s28 ?_))
        -- the frame again
        have q68 : sq [(1030, 0), (1035, 0), (1095, 0), (1096, 0), (1097, 0)] s26 s28 := (f27.mo (by decide)).tr (f28.mo (by decide))
        have q08 : sq [(1089, 0), (1090, 0), (1092, 0), (1094, 0), (1030, 0), (1035, 0), (1095, 0), (1096, 0), (1097, 0)] σ s28 := (f26.mo (by decide)).tr (q68.mo (by decide))
        have hg12 := hg.1
        have hrepn : rep (hG s1) (hN s1) β (hE s) := rep_ext i5 i5b j4c.1 i4c.1 j4c.2.2.1 j4b
        have e64 : rs s28 1064 0 = rs σ 1064 0 := q08.nrs 1064 0 (by decide)
        have hBn : mB s28 P s1 path := mB_two (mB_pre hB) q08 (by decide) (by rw [e64]; exact hlv) (by rw [f28.nrs 1097 0 (by decide), v97]; omega)
        have hfx : ∀ F, F ∈ frC → ¬ F = 1089 → ¬ F = 1090 → ¬ F = 1094 → ra s28 F 0 ((path.length : Nat) : Int) = ra σb F 0 ((path.length : Nat) : Int) := fun F hF w1 w2 w3 => by
          have : ([(1089, 0), (1090, 0), (1092, 0), (1094, 0), (1030, 0), (1035, 0), (1095, 0), (1096, 0), (1097, 0)] : List (Nat × Int)).contains (F, 0) = false := by
            have h92 : ∀ F, F ∈ frC → ¬ F = 1092 ∧ ¬ F = 1030 ∧ ¬ F = 1035 ∧ ¬ F = 1095 ∧ ¬ F = 1096 ∧ ¬ F = 1097 := by decide
            obtain ⟨u1, u2, u3, u4, u5, u6⟩ := h92 F hF
            simp [w1, w2, w3, u1, u2, u3, u4, u5, u6]
          rw [q08.nra F 0 _ this]
          exact i6 F hF
        refine ⟨⟨(j1.tr i1).tr (q08.mo (by decide)), (j1b.tr i1b).tr (K26.tr (q68.frK (by decide))), (j1c.tr (i1c.mo (by omega))).tr (q08.ndK (by decide)), (j1d.tr i1d (by omega)).tr (kpp.of q08 (by decide)) (Int.le_refl _)⟩, hBn, ⟨by rw [q08.nrs 1098 0 (by decide)]; exact i3, by rw [q08.nrs 1101 0 (by decide)]; exact i3b⟩, ⟨t28, hrepn, ⟨i4c.1, i4c.2.1, eok_mono j4c.2.2.1 i5b, i4c.2.2.2⟩, ⟨i4c.1, ?_, ?_, g4, i4c.2.2.1, ?_, ?_⟩, i4d, ?_⟩, ⟨?_, ?_, ?_, ?_⟩, ⟨?_, ?_, ?_, ?_, ?_, ?_, ?_⟩, ⟨?_, ?_⟩, fun j y0 y1 => ?_, ⟨?_, ?_, ⟨k0, k1⟩, ?_, ?_, ?_, (by show (expT (sM s1) acc).length + 1 ≤ 200; omega), nw, i4b, ?_, ?_, fun j hj => ?_, ?_⟩, j10⟩
        · show hN s0 ≤ hN s1; omega
        · show agr (hG s0) (hG s1) (hN s0)
          rw [← es1, ← es2]; exact i5
        · show hN s1 ≤ hN s0 + 60 + 120 * (sA s1 - sA s0); omega
        · show (zu (hG s1) (hN s1) : Int) ≤ zu (hG s0) (hN s0) + 26 + 52 * (sA s1 - sA s0)
          rw [← es1, ← es2]; omega
        · show sA s0 ≤ sA s1; omega
        · rw [hfx 1071 (by decide) (by decide) (by decide) (by decide)]; exact j5
        · rw [hfx 1072 (by decide) (by decide) (by decide) (by decide)]; exact j5b
        · rw [hfx 1073 (by decide) (by decide) (by decide) (by decide)]; exact j5c
        · rw [hfx 1093 (by decide) (by decide) (by decide) (by decide)]; exact j5d
        · rw [hfx 1074 (by decide) (by decide) (by decide) (by decide)]; exact j6
        · rw [hfx 1075 (by decide) (by decide) (by decide) (by decide)]; exact j6b
        · rw [hfx 1077 (by decide) (by decide) (by decide) (by decide)]; exact j6c
        · rw [hfx 1078 (by decide) (by decide) (by decide) (by decide)]; exact j6d
        · rw [hfx 1080 (by decide) (by decide) (by decide) (by decide)]; exact j6e
        · rw [q68.nra 1089 0 _ (by decide), r26'']; omega
        · rw [q68.nra 1089 0 _ (by decide), r26'']; omega
        · rw [hfx 1076 (by decide) (by decide) (by decide) (by decide)]; exact j7
        · rw [hfx 1079 (by decide) (by decide) (by decide) (by decide)]; exact j7b
        · obtain ⟨a1, a2⟩ := j8 j y0 y1
          obtain ⟨a3, a4⟩ := i9b j y0 (by omega)
          obtain ⟨a5, a6⟩ := v9 j y1
          rw [f28.nra 1095 0 _ (by decide), f28.nra 1096 0 _ (by decide), a5, a6, f26.nra 1095 0 _ (by decide), f26.nra 1096 0 _ (by decide), a3, a4]
          exact ⟨a1, a2⟩
        · show ra s28 1089 0 ((path.length : Nat) : Int) = 1
          rw [q68.nra 1089 0 _ (by decide), r26'']; omega
        · rw [q68.nra 1090 0 _ (by decide)]; exact r26'
        · have ek : kfL s28 1092 ((path.length : Nat) : Int) (tN P.1 k).toNat = kfL σ 1088 ((path.length : Nat) : Int) nodes.length := by
            rw [hnd]
            unfold kfL
            refine List.map_congr_left (fun j hj => ?_)
            have := List.mem_range.mp hj
            rw [q68.nra 1092 0 _ (by decide), r92 j (by omega)]
          show nRs (rs s28 1064 0) s28 (kfL s28 1092 ((path.length : Nat) : Int) (tN P.1 k).toNat) acc
          rw [ek, e64]
          exact nRs_K (q08.ndK (by decide)) i11
        · rw [e64]; show rs σ0 1064 0 ≤ rs σ 1064 0 ∧ rs σ 1064 0 ≤ rs σ0 1064 0 + (sA s1 - sA s0); omega
        · rw [q08.nrs 1034 0 (by decide)]
          show rs σ 1034 0 ≤ rs σ0 1034 0 + 60 + 120 * (sA s1 - sA s0)
          omega
        · rw [q68.nra 1094 0 _ (by decide)]; exact r26
        · rw [f28.nrs 1097 0 (by decide)]; exact v97
        · rw [f28.nra 1095 0 _ (by decide), f28.nra 1096 0 _ (by decide)]
          exact v9s j hj
        · show Kc (hG s0) (hN s0) β x (hG s1) (hN s1) nw
          rw [← es1, ← es2]; exact i12
      | some o =>
        obtain ⟨o1, o2, o3, o4, o5, o6, o7, new, o8, o9, o10, o11, o12⟩ := j9
        have hw1 : 1 ≤ ra σb 1089 0 ((path.length : Nat) : Int) := by
          cases another with
          | none => have : ra σb 1089 0 ((path.length : Nat) : Int) = 1 := o1; omega
          | some b => have := o1.1; omega
        rw [if_neg (by omega)]
        -- back to the mark, whatever has been told
        have bk : ∀ s36, sq [(1089, 0), (1091, 0)] σ s36 → frK ((path.length : Nat) : Int) σ s36 → ra s36 1089 0 ((path.length : Nat) : Int) = ra σb 1089 0 ((path.length : Nat) : Int) + 1 → ra s36 1091 0 ((path.length : Nat) : Int) = another.getD k → TrV (n - 1) i_Model_back [jo 1 0, ji ((path.length : Nat) : Int)] s36 Q := by
          intro s36 f36 K36 r89 r91
          refine t_bkN (s := s) (s2 := s1) (σ := σb) (new := nw) (by omega) hd j4c j4b hzu0 j4 ((mB_pre hB).sq f36 (by decide)) hg.1 jlv (i4.sq f36 (by decide)) i5 i5b ⟨i1.tr (f36.mo (by decide)), i1b.tr K36, i1c.tr (f36.ndK (by decide)), i1d.tr (kpp.of f36 (by decide)) (Int.le_refl _)⟩ ⟨by rw [f36.nrs 1098 0 (by decide)]; exact i3, by rw [f36.nrs 1101 0 (by decide)]; exact i3b⟩ ⟨fun F hF w1 w2 w3 => ?_, fun j y0 y1 => by rw [f36.nra 1092 0 _ (by decide)]; exact i6b j y0 y1⟩ (by rw [f36.nra 1084 0 _ (by decide), f36.nra 1085 0 _ (by decide), f36.nra 1086 0 _ (by decide), f36.nra 1087 0 _ (by decide)]; exact i8) ⟨by rw [f36.nrs 1097 0 (by decide)]; exact i9, fun j y0 y1 => by rw [f36.nra 1095 0 _ (by decide), f36.nra 1096 0 _ (by decide)]; exact i9b j y0 y1⟩ (fun σ' hbk hr => cTwo qb o rfl σ' ?_)
          · rw [f36.nra F 0 _ (by simp [w2, w3])]
            exact i6 F hF
          · obtain ⟨⟨b1, b1b, b1c, b1d⟩, b2, b3, b4, ⟨b5, b5b⟩, ⟨b6, b6b⟩, b7, b8⟩ := hbk
            have z78 : ra σ' 1078 0 ((path.length : Nat) : Int) = fl := by rw [hr 1078 (by omega), f36.nra 1078 0 _ (by decide), i6 1078 (by decide)]; exact j6d
            have z89 : ra σ' 1089 0 ((path.length : Nat) : Int) = ra σb 1089 0 ((path.length : Nat) : Int) + 1 := by rw [hr 1089 (by omega)]; exact r89
            have z91 : ra σ' 1091 0 ((path.length : Nat) : Int) = another.getD k := by rw [hr 1091 (by omega)]; exact r91
            obtain ⟨g1, g2, g3, g4, g5, g6, g7⟩ := j4d
            have hg12 := hg.1
            refine ⟨⟨j1.tr b1, j1b.tr b1b, j1c.tr (b1c.mo (by omega)), j1d.tr b1d g2⟩, b2, b3, ⟨b4, j4b, ⟨j4c.1, j4c.2.1, j4c.2.2.1, i4c.2.2.2⟩, ⟨g1, g2, g3, g4, g5, ?_, ?_⟩, i4d, ?_⟩, ⟨?_, ?_, ?_, ?_⟩, ⟨?_, ?_, ?_, z78, ?_, ?_, ?_⟩, ⟨?_, ?_⟩, fun j y0 y1 => ?_, ⟨?_, ?_, o3, ?_, ?_, ?_, ?_, new, o8, ?_, ?_, fun j hj => ?_, o12⟩, j10⟩
            · show hN s ≤ hN s0 + 60 + 120 * (sA s1 - sA s0); omega
            · show (zu (hG s) (hN s) : Int) ≤ zu (hG s0) (hN s0) + 26 + 52 * (sA s1 - sA s0); omega
            · show sA s0 ≤ sA s1; omega
            · rw [b5 1071 (by decide) (by decide) (by decide) (by decide)]; exact j5
            · rw [b5 1072 (by decide) (by decide) (by decide) (by decide)]; exact j5b
            · rw [b5 1073 (by decide) (by decide) (by decide) (by decide)]; exact j5c
            · rw [b5 1093 (by decide) (by decide) (by decide) (by decide)]; exact j5d
            · rw [b5 1074 (by decide) (by decide) (by decide) (by decide)]; exact j6
            · rw [b5 1075 (by decide) (by decide) (by decide) (by decide)]; exact j6b
            · rw [b5 1077 (by decide) (by decide) (by decide) (by decide)]; exact j6c
            · rw [b5 1080 (by decide) (by decide) (by decide) (by decide)]; exact j6e
            · omega
            · omega
            · rw [b5 1076 (by decide) (by decide) (by decide) (by decide)]; exact j7
            · rw [b5 1079 (by decide) (by decide) (by decide) (by decide)]; exact j7b
            · obtain ⟨a1, a2⟩ := j8 j y0 y1
              obtain ⟨a3, a4⟩ := b6b j y0 (by omega)
              exact ⟨a3.trans a1, a4.trans a2⟩
            · exact ⟨by omega, z91⟩
            · rw [b5 1090 (by decide) (by decide) (by decide) (by decide)]; exact o2
            · have hN4o := (hT.2.2.2.2.2 o.1 o3.1 o3.2).2.2.2.1
              have ek : kfL σ' 1092 ((path.length : Nat) : Int) (tN P.1 o.1).toNat = kfL σb 1092 ((path.length : Nat) : Int) (tN P.1 o.1).toNat := by
                unfold kfL
                refine List.map_congr_left (fun j hj => ?_)
                have := List.mem_range.mp hj
                exact b5b _ (by omega) (by omega)
              rw [ek, b8]
              exact nRs_K b1c o4
            · rw [b8]; show rs σ0 1064 0 ≤ rs σb 1064 0 ∧ rs σb 1064 0 ≤ rs σ0 1064 0 + (sA s1 - sA s0); have := hg.1; omega
            · rw [b7]
              show rs σb 1034 0 ≤ rs σ0 1034 0 + 60 + 120 * (sA s1 - sA s0)
              omega
            · obtain ⟨M', hM'⟩ := hg.2.2.2.2.2.2.2.2.2.2
              have hb := jB.2.2.2.2.2.1.1
              have hea : expT (sM s1) o.2.1 = expT (sM s) o.2.1 := by
                rw [hM']
                exact expT_app (fun m hm => by
                  have := nRs_inr o4 m hm
                  omega)
              show (expT (sM s1) o.2.1).length + 1 ≤ 200
              rw [hea]; exact o7
            · rw [b5 1094 (by decide) (by decide) (by decide) (by decide)]; exact o9
            · rw [b6]; exact o10
            · have hrl : new.reverse.length = new.length := List.length_reverse
              have h97p := jB.2.2.2.2.2.2.2.2
              obtain ⟨a3, a4⟩ := b6b (rs σ0 1097 0 + ((j : Nat) : Int)) (by omega) (by omega)
              rw [a3, a4]; exact o11 j hj
        by_cases q2 : ra σb 1089 0 ((path.length : Nat) : Int) + 1 = 2
        · rw [if_neg (fun w => w q2), f8.nrl 1091 0, f8.nrl 1081 0, l91, l81]
          refine ⟨by omega, by omega, by omega, by omega, fun s36 e36 => ⟨by omega, bk s36 ?_ ?_ ?_ ?_⟩⟩
          · rw [e36]; exact (f8.mo (by decide)).pwa 1091 0 _ _ (by decide)
          · rw [e36]; exact frK_up K8 (by decide) (Int.le_refl _)
          · rw [e36]; exact r8
          · rw [e36]
            unfold wa
            rw [raf_wA, if_pos ⟨rfl, rfl⟩]
            unfold upI
            rw [if_pos rfl, f8.nra 1081 0 _ (by decide), e81']
            cases another with
            | none => rfl
            | some b => have := o1.1; omega
        · rw [if_pos q2]
          refine ⟨by omega, bk s8 (f8.mo (by decide)) K8 r8 ?_⟩
          rw [f8.nra 1091 0 _ (by decide), i6 1091 (by decide)]
          cases another with
          | none => have : ra σb 1089 0 ((path.length : Nat) : Int) = 1 := o1; omega
          | some b => exact o1.2
  -- the sum
  have loop : ∀ (d j : Nat), j + d = nodes.length → J n c_Model_didWell none 4 [some (jo 1 0), some (ji ((path.length : Nat) : Int)), some (ji (1 + sumA σ (kfL σ 1088 ((path.length : Nat) : Int) j))), some (ji ((j : Nat) : Int))] [] σ (qV Q) := by
    intro d
    induction d with
    | zero =>
      intro j hj
      have ej : j = nodes.length := by omega
      rw [ej, hsum]
      exact fin
    | succ d ih =>
      intro j hj
      have hsp : ∀ m : Nat, m ≤ nodes.length → 0 ≤ sumA σ (kfL σ 1088 ((path.length : Nat) : Int) m) ∧ sumA σ (kfL σ 1088 ((path.length : Nat) : Int) m) ≤ 1000 := fun m hm => by
        have e : kfL σ 1088 ((path.length : Nat) : Int) nodes.length = kfL σ 1088 ((path.length : Nat) : Int) m ++ (kfL σ 1088 ((path.length : Nat) : Int) nodes.length).drop m := by
          have h1 : (kfL σ 1088 ((path.length : Nat) : Int) nodes.length).take m = kfL σ 1088 ((path.length : Nat) : Int) m := by
            unfold kfL
            rw [← List.map_take, List.take_range, Nat.min_eq_left hm]
          rw [← h1, List.take_append_drop]
        have i11' := i11
        rw [e] at i11'
        obtain ⟨t1, t2, et, u1, u2⟩ := nRs_split i11'
        have hs1 := nAll hB.2.2.2.2.2.1 u1 (fun m hm => hne m (by rw [et]; exact List.mem_append_left _ hm))
        have hle : (expT (sM s1) t1).length ≤ (expT (sM s1) acc).length := by
          rw [et, expT_two, List.length_append]; omega
        have h4 : nodes.length ≤ 4 := by omega
        have h5 := Nat.mul_le_mul_left 200 h4
        omega
      have hin : ra σ 1088 0 (4 * ((path.length : Nat) : Int) + ((j : Nat) : Int)) ∈ kfL σ 1088 ((path.length : Nat) : Int) nodes.length := List.mem_map.mpr ⟨j, List.mem_range.mpr (by omega), rfl⟩
      obtain ⟨w1, w2⟩ := hrng _ hin
      have hs1 := hsp (j + 1) (by omega)
      have hs0 := hsp j (by omega)
      rw [kfL_s, sumA_app, sumA_cons] at hs1
      have e0 : sumA σ [] = 0 := rfl
      refine wp_Model_didWell_4 ⟨by omega, by omega, by omega, by omega, ?_⟩
      rw [i7, if_neg (by omega), l59, l88]
      refine ⟨by omega, by omega, ⟨by omega, by omega⟩, ⟨by omega, by omega⟩, by omega, by omega, w1, by omega, ⟨by omega, by omega⟩, ⟨by omega, by omega⟩, ?_⟩
      have := ih (j + 1) (by omega)
      rw [kfL_s, sumA_app, sumA_cons, e0] at this
      rw [show ((j : Nat) : Int) + 1 = ((j + 1 : Nat) : Int) by omega]
      have e9 : 1 + sumA σ (kfL σ 1088 ((path.length : Nat) : Int) j) + ra σ 1059 0 (ra σ 1088 0 (4 * ((path.length : Nat) : Int) + ((j : Nat) : Int))) = 1 + (sumA σ (kfL σ 1088 ((path.length : Nat) : Int) j) + (ra σ 1059 0 (ra σ 1088 0 (4 * ((path.length : Nat) : Int) + ((j : Nat) : Int))) + 0)) := by omega
      rw [e9]
      exact this
  have := loop nodes.length 0 (by omega)
  exact wp_Model_didWell this
end ZSa
