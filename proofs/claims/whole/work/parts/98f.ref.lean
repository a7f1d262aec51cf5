/-! NEEDS are asked, one behind another: the reference. -/
/-- what an asking leaves that ends well or not, but in no other way -/
def mPost (P : zP) (σ σ' : jS) (s : zS) (path β : List (Int × Int)) (y : Int) (R : zS × zQ) : Prop :=
  (sq agF σ σ' ∧ frK ((path.length : Nat) : Int) σ σ' ∧ ndK (rs σ 1064 0) σ σ' ∧ kpp σ σ' (hN s)) ∧ mB σ' P R.1 path ∧ (rs σ' 1098 0 = ((path.length : Nat) : Int) ∧ rs σ' 1101 0 = 1) ∧
  (rs σ' 1097 0 = rs σ 1097 0 ∧ ∀ j : Int, 0 ≤ j → j < rs σ 1097 0 → ra σ' 1095 0 j = ra σ 1095 0 j ∧ ra σ' 1096 0 j = ra σ 1096 0 j) ∧
  (rs σ' 1034 0 ≤ rs σ 1034 0 + 120 * (sA R.1 - sA s) ∧ (rs σ 1064 0 ≤ rs σ' 1064 0 ∧ rs σ' 1064 0 ≤ rs σ 1064 0 + (sA R.1 - sA s))) ∧ (agr (hG s) (hG R.1) (hN s) ∧ hN s ≤ hN R.1) ∧
  ∃ new, mT σ' (hG R.1) (hN R.1) (new ++ β) ∧ rep (hG R.1) (hN R.1) (new ++ β) (hE R.1) ∧ (R.2.2.1 = none → rs σ' 1102 0 = -1) ∧ ∀ t, R.2.2.1 = some t → (0 ≤ rs σ' 1102 0 ∧ nRs (rs σ' 1064 0) σ' [rs σ' 1102 0] t) ∧ Kc (hG s) (hN s) β y (hG R.1) (hN R.1) new ∧ (expT (sM R.1) t).length ≤ 200
/-- what it leaves that ends in another way -/
def mErr (σ σ' : jS) (R : zS × zQ) : Prop := sq agF σ σ' ∧ rs σ' 1099 0 = R.2.1 ∧ (rs σ' 1103 0 = sA R.1 ∧ rs σ' 1104 0 = sMt R.1 ∧ rs σ' 1105 0 = sC R.1 ∧ rs σ' 1106 0 = sTr R.1 ∧ rs σ' 1107 0 = sD R.1) ∧ mMem σ' (sM R.1) ∧
  (R.2.1 = 2 → ∃ g N β x, mT σ' g N β ∧ acy g N β ∧ (0 ≤ x ∧ x < N) ∧ (1 ≤ rs σ' 1098 0 ∧ rs σ' 1098 0 ≤ 20) ∧ ra σ' 1071 0 (rs σ' 1098 0 - 1) = x ∧ R.2.2.2.2.2 = cno [] (ex g N β x) ∧ (ex g N β x).length ≤ 100 ∧ ra σ' 1090 0 (rs σ' 1098 0 - 1) = R.2.2.2.1 ∧ ra σ' 1091 0 (rs σ' 1098 0 - 1) = R.2.2.2.2.1)
/-- askGoal does what it is told to do, at a depth; LP: how it goes on -/
def askMC (P : zP) (n : Nat) (LP : jS → Prop) (ask : zS → Int → zS × zQ) (path : List (Int × Int)) : Prop := ∀ (s : zS) (y : Int) (β : List (Int × Int)) (σ : jS), mB σ P s path → mT σ (hG s) (hN s) β → rep (hG s) (hN s) β (hE s) → gok s → nOk s → rs σ 1098 0 = ((path.length : Nat) : Int) → rs σ 1101 0 = 0 → 0 ≤ y → y < hN s → hN s ≤ 12 + 120 * sA s → rs σ 1034 0 ≤ 12 + 120 * sA s → (zu (hG s) (hN s) : Int) ≤ 12 + 52 * sA s → rs σ 1097 0 ≤ 100 * ((path.length : Nat) : Int) + zu (hG s) (hN s) → (∀ p, p ∈ path → 0 ≤ p.2 ∧ p.2 < hN s) → ((ask s y).2.1 = 0 → ∀ σ', mPost P σ σ' s path β y (ask s y) → LP σ') → (¬ (ask s y).2.1 = 0 → ∀ σ', mErr σ σ' (ask s y) → LP σ') → TrV n i_Model_askGoal [jo 1 0, ji y] σ LP
/-- back at a frame's mark -/
def bkI (P : zP) (σ σ' : jS) (s s2 : zS) (path β : List (Int × Int)) : Prop :=
  (sq agF σ σ' ∧ frK ((path.length : Nat) : Int) σ σ' ∧ ndK (rs σ 1064 0) σ σ' ∧ kpp σ σ' (hN s)) ∧ mB σ' P s2 path ∧ (rs σ' 1098 0 = ((path.length : Nat) : Int) + 1 ∧ rs σ' 1101 0 = 0) ∧ mT σ' (hG s) (hN s) β ∧
  ((∀ F, F ∈ frC → ¬ F = 1078 → ¬ F = 1089 → ¬ F = 1091 → ra σ' F 0 ((path.length : Nat) : Int) = ra σ F 0 ((path.length : Nat) : Int)) ∧ ∀ j : Int, 0 ≤ j → j < 4 → ra σ' 1092 0 (4 * ((path.length : Nat) : Int) + j) = ra σ 1092 0 (4 * ((path.length : Nat) : Int) + j)) ∧
  (rs σ' 1097 0 = rs σ 1097 0 ∧ ∀ j : Int, 0 ≤ j → j < rs σ 1097 0 → ra σ' 1095 0 j = ra σ 1095 0 j ∧ ra σ' 1096 0 j = ra σ 1096 0 j) ∧ rs σ' 1034 0 = rs σ 1034 0 ∧ rs σ' 1064 0 = rs σ 1064 0
section ZRa
variable {n : Nat} {σ σ1 σ2 : jS} {β new : List (Int × Int)} {x k : Int} {P : zP} {s s1 : zS} {path : List (Int × Int)} {LP : jS → Prop} {ask : zS → Int → zS × zQ}
theorem mB_pre {p : Int × Int} (h : mB σ P s (path ++ [p])) : mB σ P s path := by
  obtain ⟨h1, h2, h3, h4, h5, h6, h7, h8, h9⟩ := h
  refine ⟨h1, h2, h3, h4, fun d hd => ?_, h6, h7, h8, h9⟩
  have := h5 d (by simp; omega)
  rw [List.getElem_append_left hd] at this
  exact this
/-- live nodes are fewer again -/
theorem mB_live {l : List (Nat × Int)} (h : mB σ P s path) (e : sq l σ σ1) (hl : (mBF.all (fun p => !l.contains p || p.1 == 1064)) = true) (h64 : 8200 ≤ rs σ1 1064 0 ∧ rs σ1 1064 0 ≤ 8200 + sA s) : mB σ1 P s path := by
  have hm : ∀ p, p ∈ mBF → ¬ p.1 = 1064 → l.contains p = false := fun p hp h1 => by
    have := List.all_eq_true.mp hl p hp
    have e1 : (p.1 == 1064) = false := by simpa using h1
    rw [e1] at this
    simpa using this
  obtain ⟨h1, h2, h3, h4, h5, h6, h7, h8, h9⟩ := h
  unfold mB
  rw [e.nrs 1015 0 (hm _ (by decide) (by decide)), e.nrs 1016 0 (hm _ (by decide) (by decide)), e.nrs 1108 0 (hm _ (by decide) (by decide)), e.nrs 1100 0 (hm _ (by decide) (by decide)), e.nrs 1103 0 (hm _ (by decide) (by decide)), e.nrs 1104 0 (hm _ (by decide) (by decide)), e.nrs 1105 0 (hm _ (by decide) (by decide)), e.nrs 1106 0 (hm _ (by decide) (by decide)), e.nrs 1107 0 (hm _ (by decide) (by decide)), e.nraf 1081 0 (hm _ (by decide) (by decide)), e.nraf 1071 0 (hm _ (by decide) (by decide)), e.nrs 1099 0 (hm _ (by decide) (by decide)), e.nrs 1097 0 (hm _ (by decide) (by decide))]
  refine ⟨h1.sq e, h2.sq e (List.all_eq_true.mpr (fun p hp => ?_)), h3, h4, h5, h6.K (e.ndK (L := 8200) (List.all_eq_true.mpr (fun p hp => ?_))) (Int.le_refl _) (e.nrs 1063 0 (hm _ (by decide) (by decide))) (e.nrs 1065 0 (hm _ (by decide) (by decide))) (e.nrs 1070 0 (hm _ (by decide) (by decide))), h7, h64, h9⟩
  · have : ∀ p, p ∈ ([(1008, 0), (1009, 0), (1010, 0), (1011, 0), (1012, 0), (1013, 0), (1014, 0), (1026, 0)] : List (Nat × Int)) → p ∈ mBF ∧ ¬ p.1 = 1064 := by decide
    rw [hm p (this p hp).1 (this p hp).2]; rfl
  · have : ∀ p, p ∈ ([(1052, 0), (1053, 0), (1054, 0), (1055, 0), (1056, 0), (1057, 0), (1058, 0), (1059, 0), (1060, 0), (1061, 0), (1062, 0), (1063, 0), (1065, 0), (1066, 0), (1067, 0), (1068, 0), (1069, 0), (1070, 0)] : List (Nat × Int)) → p ∈ mBF ∧ ¬ p.1 = 1064 := by decide
    rw [hm p (this p hp).1 (this p hp).2]; rfl
/-- back(f) behind NEEDS: the mark again -/
theorem t_bkN {Q : jS → Prop} {s2 : zS} {g' : zH} {N' : Int} (hn : 2 ≤ n) (hd : path.length < 20) (hgs : gok s) (hrep : rep (hG s) (hN s) β (hE s)) (hzu : zu (hG s) (hN s) ≤ 20000) (hHs : mT σ (hG s) (hN s) β) (hB : mB σ2 P s2 path) (hA : sA s ≤ sA s2) (hlive : 8200 ≤ rs σ 1064 0 ∧ rs σ 1064 0 ≤ 8200 + sA s) (hT : mT σ2 g' N' (new ++ β)) (ha : agr (hG s) g' (hN s)) (hNl : hN s ≤ N')
    (h1 : sq agF σ σ2 ∧ frK ((path.length : Nat) : Int) σ σ2 ∧ ndK (rs σ 1064 0) σ σ2 ∧ kpp σ σ2 (hN s)) (h2 : rs σ2 1098 0 = ((path.length : Nat) : Int) + 1 ∧ rs σ2 1101 0 = 0)
    (h3 : (∀ F, F ∈ frC → ¬ F = 1078 → ¬ F = 1089 → ¬ F = 1091 → ra σ2 F 0 ((path.length : Nat) : Int) = ra σ F 0 ((path.length : Nat) : Int)) ∧ ∀ j : Int, 0 ≤ j → j < 4 → ra σ2 1092 0 (4 * ((path.length : Nat) : Int) + j) = ra σ 1092 0 (4 * ((path.length : Nat) : Int) + j))
    (h4 : ra σ2 1084 0 ((path.length : Nat) : Int) = ((β.length : Nat) : Int) ∧ ra σ2 1085 0 ((path.length : Nat) : Int) = hN s ∧ ra σ2 1086 0 ((path.length : Nat) : Int) = rs σ 1034 0 ∧ ra σ2 1087 0 ((path.length : Nat) : Int) = rs σ 1064 0)
    (h5 : rs σ2 1097 0 = rs σ 1097 0 ∧ ∀ j : Int, 0 ≤ j → j < rs σ 1097 0 → ra σ2 1095 0 j = ra σ 1095 0 j ∧ ra σ2 1096 0 j = ra σ 1096 0 j)
    (hq : ∀ σ', bkI P σ σ' s s2 path β → (∀ F : Nat, F = 1078 ∨ F = 1089 ∨ F = 1091 → ra σ' F 0 = ra σ2 F 0) → Q σ') : TrV n i_Model_back [jo 1 0, ji ((path.length : Nat) : Int)] σ2 Q := by
  obtain ⟨a1, a2, a3, a4⟩ := h1
  have hp34 := hHs.2.2.2.2.2.2.2.2.1
  refine t_back hn hT (by omega) (by omega) h4.1 h4.2.1 h4.2.2.1 h4.2.2.2 ha hNl hgs.2.1 hgs.1 hrep.1 hzu ((hHs.pbd (Int.le_refl _)).k a4) hp34.1 hp34.2 (fun σ3 t3 f3 e34 e64 => hq σ3 ⟨⟨a1.tr (f3.mo (by decide)), a2.tr (f3.frK (by decide)), a3.tr (f3.ndK (by decide)), a4.tr (kpp.of f3 (by decide)) (Int.le_refl _)⟩, mB_live hB f3 (by decide) (by rw [e64]; omega), ⟨by rw [f3.nrs 1098 0 (by decide)]; exact h2.1, by rw [f3.nrs 1101 0 (by decide)]; exact h2.2⟩, t3, ⟨fun F hF w1 w2 w3 => ?_, fun j j0 j1 => by rw [f3.nra 1092 0 _ (by decide)]; exact h3.2 j j0 j1⟩, ⟨by rw [f3.nrs 1097 0 (by decide)]; exact h5.1, fun j j0 j1 => by rw [f3.nra 1095 0 _ (by decide), f3.nra 1096 0 _ (by decide)]; exact h5.2 j j0 j1⟩, e34, e64⟩ (fun F hF => ?_))
  · have : ∀ F, F ∈ frC → ([(1030, 0), (1035, 0), (1033, 0), (1034, 0), (1064, 0)] : List (Nat × Int)).contains (F, 0) = false := by decide
    rw [f3.nra F 0 _ (this F hF)]
    exact h3.1 F hF w1 w2 w3
  · rcases hF with w | w | w
    · rw [w]; exact f3.nraf 1078 0 (by decide)
    · rw [w]; exact f3.nraf 1089 0 (by decide)
    · rw [w]; exact f3.nraf 1091 0 (by decide)
theorem kfL_s (σ : jS) (F : Nat) (f : Int) (i : Nat) : kfL σ F f (i + 1) = kfL σ F f i ++ [ra σ F 0 (4 * f + ((i : Nat) : Int))] := by
  unfold kfL
  rw [List.range_succ, List.map_append]
  rfl
theorem nRs_inr {L : Int} : ∀ {t : List zI} {ns : List Int}, nRs L σ ns t → ∀ m : Nat, .inr m ∈ t → ((m : Nat) : Int) < rs σ 1070 0 := by
  intro t
  induction t with
  | nil => intro ns _ m hm; cases hm
  | cons y t ih =>
    intro ns h m hm
    cases ns with
    | nil => exact False.elim h
    | cons n ns =>
      cases y with
      | inl z =>
        rcases List.mem_cons.mp hm with w | w
        · cases w
        · exact ih h.2 m w
      | inr j =>
        rcases List.mem_cons.mp hm with w | w
        · have : m = j := Sum.inr.inj w
          rw [this]; exact h.1.2.2.1
        · exact ih h.2 m w
theorem nRs_rng {L : Int} (hL : L ≤ 8420) (hk : rs σ 1063 0 ≤ 8200) : ∀ {t : List zI} {ns : List Int}, nRs L σ ns t → ∀ n, n ∈ ns → 0 ≤ n ∧ n < 8420 := by
  intro t
  induction t with
  | nil =>
    intro ns h n hn
    cases ns with
    | nil => cases hn
    | cons m ns => exact False.elim h
  | cons y t ih =>
    intro ns h n hn
    cases ns with
    | nil => cases hn
    | cons m ns =>
      cases y with
      | inl z =>
        rcases List.mem_cons.mp hn with w | w
        · have := h.1.1
          have := h.1.lt
          rw [w]; omega
        · exact ih h.2 n (List.mem_append_right _ w)
      | inr j =>
        rcases List.mem_cons.mp hn with w | w
        · have := h.1.1
          have := h.1.2.1
          rw [w]; omega
        · exact ih h.2 n w
set_option maxRecDepth 8000 in
theorem t_goOn {nA nS : Nat} {nodes : List Int} (hLP : ∀ σ, rs σ 1099 0 = -1 → 0 < rs σ 1098 0 → TrV nS i_Model_step [jo 1 0] σ LP → LP σ) (hnS : nA + 10 ≤ nS) (hask : askMC P nA LP ask (path ++ [(k, x)])) (hR : ∀ s y, gok s → 0 ≤ y → y < hN s → askR s (ask s y) 0 0 0) (hT : tok P.1) (k0 : 0 ≤ k) (k1 : k < tG P.1) (hd : path.length < 20) (h0 : nOk s) (hp0 : pot s ≤ 199) (x1 : x < hN s) (x0 : 0 ≤ x) (hgs : gok s) (hrep : rep (hG s) (hN s) β (hE s)) (hHs : mT σ (hG s) (hN s) β) (hpath : ∀ p, p ∈ path → 0 ≤ p.2 ∧ p.2 < hN s) (hlive : 8200 ≤ rs σ 1064 0 ∧ rs σ 1064 0 ≤ 8200 + sA s) (hbp : rs σ 1034 0 + 60 ≤ 12 + 120 * sA s) (hsv : rs σ 1097 0 ≤ 100 * (((path.length : Nat) : Int) + 1) + zu (hG s) (hN s)) (hfl : 0 ≤ ra σ 1078 0 ((path.length : Nat) : Int) ∧ ra σ 1078 0 ((path.length : Nat) : Int) < 100000)
    (hnd : nodes = (layGv P.1 k (hG s) (hN s)).2.2.2) (hzu0 : zu (hG s) (hN s) ≤ 20000)
    (cWell : ∀ (σ1 : jS) (s1 : zS) (nw : List (Int × Int)) (acc : List zI) (n' : Nat), nA + 3 ≤ n' → nInv P σ σ1 s s1 path β nw k x nodes.length nodes acc → spNeeds ask nodes (spLay P.1 k x s) [] = (s1, 0, some acc, noQ) → TrV n' i_Model_didWell [jo 1 0, ji ((path.length : Nat) : Int)] σ1 LP)
    (cFail : (spNeeds ask nodes (spLay P.1 k x s) []).2.1 = 0 → (spNeeds ask nodes (spLay P.1 k x s) []).2.2.1 = none → ∀ σ', bkI P σ σ' s (spNeeds ask nodes (spLay P.1 k x s) []).1 path β → ra σ' 1078 0 ((path.length : Nat) : Int) = ra σ 1078 0 ((path.length : Nat) : Int) + 1 → ra σ' 1089 0 ((path.length : Nat) : Int) = ra σ 1089 0 ((path.length : Nat) : Int) → ra σ' 1091 0 ((path.length : Nat) : Int) = ra σ 1091 0 ((path.length : Nat) : Int) → LP σ')
    (cErr : ¬ (spNeeds ask nodes (spLay P.1 k x s) []).2.1 = 0 → ∀ σ', mErr σ σ' (spNeeds ask nodes (spLay P.1 k x s) []) → LP σ') :
    ∀ (d i : Nat) (s1 : zS) (acc : List zI) (nw : List (Int × Int)) (σ1 : jS) (n' : Nat), i + d = nodes.length → nA + 4 ≤ n' → spNeeds ask (nodes.drop i) s1 acc = spNeeds ask nodes (spLay P.1 k x s) [] → nInv P σ σ1 s s1 path β nw k x i nodes acc → gon s s1 1 → hN s1 ≤ 12 + 120 * sA s1 → (zu (hG s1) (hN s1) : Int) ≤ 12 + 52 * sA s1 → hN (spLay P.1 k x s) ≤ hN s1 → TrV n' i_Model_goOn [jo 1 0, ji ((path.length : Nat) : Int)] σ1 LP := by
  have hgk := hT.2.2.2.2.2 k k0 k1
  obtain ⟨l1, l2, l3, l4, l5, l6, l7, l8⟩ := lgv_ok (T := P.1) hT k0 k1 hgs.1 hgs.2.1
  obtain ⟨fr1', fr2', fr3'⟩ := lgv_fresh (T := P.1) hT k0 k1 hgs.1 hgs.2.1
  have hlp : (path ++ [(k, x)]).length = path.length + 1 := by simp
  rw [← hnd] at l7 l8 fr3'
  intro d
  induction d with
  | zero =>
    intro i s1 acc nw σ1 n' hi hn' hsp hI hg hb1 hb2 hlN
    have ei : i = nodes.length := by omega
    subst ei
    have hI0 := hI
    obtain ⟨-, hB, -, -, -, -, ⟨i7, -⟩, -⟩ := hI
    have l82 := mln_at hB.1 1082 21 (by decide)
    have l81 := mln_at hB.1 1081 21 (by decide)
    have l10 := mln_at hB.1 1010 24 (by decide)
    have e81 := (hB.2.2.2.2.1 path.length (by rw [hlp]; omega)).1
    have e81' : ra σ1 1081 0 ((path.length : Nat) : Int) = k := by rw [e81]; simp
    have e10 := (hB.2.1.2.2.2.2.1 k k0 k1).2.1
    have hG24 := hT.2.2.2.1
    refine wp_Model_goOn ⟨by omega, by omega, by omega, by omega, by omega, by omega, by omega, by omega, by omega, ?_⟩
    rw [e81', e10, i7, if_pos (by omega)]
    refine ⟨by omega, cWell σ1 s1 nw acc (n' - 1) (by omega) hI0 ?_⟩
    rw [← hsp, List.drop_length]
    rfl
  | succ d ih =>
    intro i s1 acc nw σ1 n' hi hn' hsp hI hg hb1 hb2 hlN
    have hin : i < nodes.length := by omega
    have hdr : nodes.drop i = nodes[i] :: nodes.drop (i + 1) := List.drop_eq_getElem_cons hin
    have hget : nodes.getD i 0 = nodes[i] := by
      show (nodes[i]?).getD 0 = _
      rw [List.getElem?_eq_getElem hin]
      rfl
    have hmem := List.getElem_mem hin
    have hy := l8 _ hmem
    have hyf := fr3' _ hmem
    obtain ⟨⟨i1, i1b, i1c, i1d⟩, hB, ⟨i3, i3b⟩, ⟨i4, i4b, i4c, i4d⟩, ⟨i5, i5b, i5c⟩, ⟨i6, i6b⟩, ⟨i7, i7b⟩, i8, ⟨i9, i9b⟩, ⟨i10, i10b⟩, i11, i12, i13⟩ := hI
    have hneed := i7b i hin
    rw [hget] at hneed
    generalize hyy : nodes[i] = y at hdr hy hyf hneed
    rw [hdr] at hsp
    have l82 := mln_at hB.1 1082 21 (by decide)
    have l81 := mln_at hB.1 1081 21 (by decide)
    have l83 := mln_at hB.1 1083 84 (by decide)
    have l10 := mln_at hB.1 1010 24 (by decide)
    have e81 := (hB.2.2.2.2.1 path.length (by rw [hlp]; omega)).1
    have e81' : ra σ1 1081 0 ((path.length : Nat) : Int) = k := by rw [e81]; simp
    have e10 := (hB.2.1.2.2.2.2.1 k k0 k1).2.1
    have hG24 := hT.2.2.2.1
    have hN4 := hgk.2.2.2.1
    have hzm := zu_mono i5 i5b hgs.2.1
    have hylt : y < hN s1 := by
      have : hN (spLay P.1 k x s) = (layGv P.1 k (hG s) (hN s)).2.1 := rfl
      omega
    refine wp_Model_goOn ⟨by omega, by omega, by omega, by omega, by omega, by omega, by omega, by omega, by omega, ?_⟩
    rw [e81', e10, i7, if_neg (by omega), hneed]
    refine ⟨by omega, ⟨by omega, by omega⟩, ⟨by omega, by omega⟩, by omega, by omega, by omega, ?_⟩
    have hRs := hR s1 y i4c hy.1 hylt
    obtain ⟨e1, e2, e3, e4⟩ := hRs
    have hspn : (ask s1 y).2.2.1 = none → spNeeds ask nodes (spLay P.1 k x s) [] = ((ask s1 y).1, (ask s1 y).2.1, none, (ask s1 y).2.2.2) := fun hc => by
      rw [← hsp]
      show (match (ask s1 y).2.2.1 with
        | none => ((ask s1 y).1, (ask s1 y).2.1, none, (ask s1 y).2.2.2)
        | some t => spNeeds ask _ (ask s1 y).1 (acc ++ t)) = _
      rw [hc]
    refine (hask s1 y (nw ++ β) σ1 hB i4 i4b i4c i4d (by rw [i3, hlp]; omega) i3b hy.1 hylt hb1 (by omega) hb2 (by rw [hlp, i9]; omega) (fun p hp => by
      rcases List.mem_append.mp hp with w | w
      · have := hpath p w; omega
      · have : p = (k, x) := by simpa using w
        rw [this]; exact ⟨x0, by show x < hN s1; omega⟩) (fun hs0 σ2 hp => ?_) (fun hs0 σ2 he => ?_)).up (by omega)
    · -- the NEED has come out
      obtain ⟨⟨p1, p1b, p1c, p1d⟩, p2, ⟨p3, p3b⟩, ⟨p4, p4b⟩, ⟨p5, p5b⟩, ⟨p6, p6b⟩, new, p7, p8, p9, p10⟩ := hp
      rw [hlp] at p3 p1b
      refine hLP σ2 p2.2.2.2.2.2.2.1 (by omega) (wp_Model_step ⟨by omega, by rw [p3]; exact ⟨by omega, by omega⟩, ?_⟩)
      rw [if_neg (by omega)]
      intro s3 es3
      have g3 : sq [(1101, 0)] σ2 s3 := by rw [es3]; exact (sq.rf _ σ2).pws 1101 0 _ (by decide)
      have e101 : rs s3 1101 0 = 0 := by rw [es3, rs_ws, if_pos ⟨rfl, rfl⟩]
      clear es3
      have ef : rs σ2 1098 0 - 1 = ((path.length : Nat) : Int) := by omega
      rw [ef]
      have k82 : ra s3 1082 0 ((path.length : Nat) : Int) = ((i : Nat) : Int) := by rw [g3.nra 1082 0 _ (by decide), p1b.1 1082 (by decide) _ (by omega)]; exact i7
      have m82 := mln_at (p2.1.sq g3) 1082 21 (by decide)
      have m88 := mln_at (p2.1.sq g3) 1088 84 (by decide)
      have m78 := mln_at (p2.1.sq g3) 1078 21 (by decide)
      -- what stays of the frame
      have base1 : sq agF σ s3 ∧ frK ((path.length : Nat) : Int) σ s3 ∧ ndK (rs σ 1064 0) σ s3 ∧ kpp σ s3 (hN s) := ⟨(i1.tr p1).tr (g3.mo (by decide)), (i1b.tr (p1b.mo (by omega))).tr (g3.frK (by decide)), (i1c.tr (p1c.mo i10b.1)).tr (g3.ndK (by decide)), (i1d.tr p1d i5b).tr (kpp.of g3 (by decide)) (Int.le_refl _)⟩
      have base3 : (∀ F, F ∈ frC → ra s3 F 0 ((path.length : Nat) : Int) = ra σ F 0 ((path.length : Nat) : Int)) ∧ ∀ j : Int, 0 ≤ j → j < 4 → ra s3 1092 0 (4 * ((path.length : Nat) : Int) + j) = ra σ 1092 0 (4 * ((path.length : Nat) : Int) + j) := by
        have hc1 : ∀ F, F ∈ frC → F ∈ fr1 ∧ ([(1101, 0)] : List (Nat × Int)).contains (F, 0) = false := by decide
        refine ⟨fun F hF => ?_, fun j j0 j1 => ?_⟩
        · rw [g3.nra F 0 _ (hc1 F hF).2, p1b.1 F (hc1 F hF).1 _ (by omega)]
          exact i6 F hF
        · rw [g3.nra 1092 0 _ (by decide), p1b.2 1092 (by decide) _ (by omega)]
          exact i6b j j0 j1
      have base4 : ra s3 1084 0 ((path.length : Nat) : Int) = ((β.length : Nat) : Int) ∧ ra s3 1085 0 ((path.length : Nat) : Int) = hN s ∧ ra s3 1086 0 ((path.length : Nat) : Int) = rs σ 1034 0 ∧ ra s3 1087 0 ((path.length : Nat) : Int) = rs σ 1064 0 := by
        rw [g3.nra 1084 0 _ (by decide), g3.nra 1085 0 _ (by decide), g3.nra 1086 0 _ (by decide), g3.nra 1087 0 _ (by decide), p1b.1 1084 (by decide) _ (by omega), p1b.1 1085 (by decide) _ (by omega), p1b.1 1086 (by decide) _ (by omega), p1b.1 1087 (by decide) _ (by omega)]
        exact i8
      have base5 : rs s3 1097 0 = rs σ 1097 0 ∧ ∀ j : Int, 0 ≤ j → j < rs σ 1097 0 → ra s3 1095 0 j = ra σ 1095 0 j ∧ ra s3 1096 0 j = ra σ 1096 0 j := by
        refine ⟨by rw [g3.nrs 1097 0 (by decide), p4]; exact i9, fun j j0 j1 => ?_⟩
        obtain ⟨u1, u2⟩ := p4b j j0 (by omega)
        obtain ⟨v1, v2⟩ := i9b j j0 j1
        rw [g3.nra 1095 0 _ (by decide), g3.nra 1096 0 _ (by decide)]
        exact ⟨u1.trans v1, u2.trans v2⟩
      have B3 : mB s3 P (ask s1 y).1 (path ++ [(k, x)]) := p2.sq g3 (by decide)
      have T3 : mT s3 (hG (ask s1 y).1) (hN (ask s1 y).1) (new ++ (nw ++ β)) := p7.sq g3 (by decide)
      have c102 : rs s3 1102 0 = rs σ2 1102 0 := g3.nrs 1102 0 (by decide)
      have c98 : rs s3 1098 0 = ((path.length : Nat) : Int) + 1 := by rw [g3.nrs 1098 0 (by decide), p3]; omega
      refine ⟨by omega, wp_Model_comeBack ⟨by omega, ?_⟩⟩
      cases hc : (ask s1 y).2.2.1 with
      | none =>
        rw [c102, p9 hc, if_neg (fun w => w rfl)]
        have hF78 := base3.1 1078 (by decide)
        refine ⟨by omega, by omega, by omega, by rw [hF78]; exact ⟨by omega, by omega⟩, fun s22 e22 => ⟨by omega, ?_⟩⟩
        have g22 : sq [(1078, 0)] s3 s22 := by rw [e22]; exact (sq.rf _ s3).pwa 1078 0 _ _ (by decide)
        have r22 : ra s22 1078 0 ((path.length : Nat) : Int) = ra σ 1078 0 ((path.length : Nat) : Int) + 1 := by
          rw [e22]
          unfold wa
          rw [raf_wA, if_pos ⟨rfl, rfl⟩]
          unfold upI
          rw [if_pos rfl, hF78]
        have K22 : frK ((path.length : Nat) : Int) s3 s22 := by rw [e22]; exact frK_up (frK.rf _ _) (by decide) (Int.le_refl _)
        clear e22
        have hg2 := hg.tr e1
        refine t_bkN (s := s) (s2 := (ask s1 y).1) (σ := σ) (new := new ++ nw) (by omega) hd hgs hrep hzu0 hHs ((mB_pre B3).sq g22 (by decide)) hg2.1 hlive (by rw [List.append_assoc]; exact T3.sq g22 (by decide)) (i5.tr p6 i5b) (by omega) ⟨base1.1.tr (g22.mo (by decide)), base1.2.1.tr K22, base1.2.2.1.tr (g22.ndK (by decide)), base1.2.2.2.tr (kpp.of g22 (by decide)) (Int.le_refl _)⟩ ⟨by rw [g22.nrs 1098 0 (by decide)]; exact c98, by rw [g22.nrs 1101 0 (by decide)]; exact e101⟩ ⟨fun F hF w1 w2 w3 => ?_, fun j j0 j1 => by rw [g22.nra 1092 0 _ (by decide)]; exact base3.2 j j0 j1⟩ (by rw [g22.nra 1084 0 _ (by decide), g22.nra 1085 0 _ (by decide), g22.nra 1086 0 _ (by decide), g22.nra 1087 0 _ (by decide)]; exact base4) ⟨by rw [g22.nrs 1097 0 (by decide)]; exact base5.1, fun j j0 j1 => by rw [g22.nra 1095 0 _ (by decide), g22.nra 1096 0 _ (by decide)]; exact base5.2 j j0 j1⟩ (fun σ' hbk hr => ?_)
        · have : ([(1078, 0)] : List (Nat × Int)).contains (F, 0) = false := by simp [w1]
          rw [g22.nra F 0 _ this]
          exact base3.1 F hF
        · have hspn' := hspn hc
          refine cFail (by rw [hspn']; exact hs0) (by rw [hspn']) σ' (by rw [hspn']; exact hbk) ?_ ?_ ?_
          · rw [hr 1078 (by omega)]; exact r22
          · rw [hr 1089 (by omega), g22.nra 1089 0 _ (by decide)]; exact base3.1 1089 (by decide)
          · rw [hr 1091 (by omega), g22.nra 1091 0 _ (by decide)]; exact base3.1 1091 (by decide)
      | some t =>
        obtain ⟨⟨t1, t2⟩, t3, t4⟩ := p10 t hc
        obtain ⟨r1, r2, r3, r4, r5, r6⟩ := e4 t hc
        rw [c102, if_pos (by omega), k82]
        refine ⟨by omega, ⟨by omega, by omega⟩, by omega, by omega, by omega, ⟨by omega, by omega⟩, by omega, by omega, fun s8 e8 => ?_⟩
        have g8 : sq [(1088, 0), (1082, 0)] s3 s8 := by rw [e8]; exact (sq.rf _ s3).pwa 1088 0 _ _ (by decide)
        have K8 : frK ((path.length : Nat) : Int) s3 s8 := by rw [e8]; exact frK_up4 (frK.rf _ _) (by decide) (by omega)
        have v82 : ra s8 1082 0 ((path.length : Nat) : Int) = ((i : Nat) : Int) := by rw [e8]; exact k82
        rw [g8.nrl 1082 0, m82, v82]
        refine ⟨by omega, by omega, ⟨by omega, by omega⟩, fun s14 e14 => ⟨by omega, ?_⟩⟩
        have g14 : sq [(1088, 0), (1082, 0)] s3 s14 := by rw [e14]; exact g8.pwa 1082 0 _ _ (by decide)
        have K14 : frK ((path.length : Nat) : Int) s3 s14 := by rw [e14]; exact frK_up K8 (by decide) (Int.le_refl _)
        have r88 : ra s14 1088 0 = upI (ra s3 1088 0) (4 * ((path.length : Nat) : Int) + ((i : Nat) : Int)) (rs σ2 1102 0) := by rw [e14, e8]; rfl
        have r82 : ra s14 1082 0 ((path.length : Nat) : Int) = ((i + 1 : Nat) : Int) := by
          rw [e14]
          unfold wa
          rw [raf_wA, if_pos ⟨rfl, rfl⟩]
          unfold upI
          rw [if_pos rfl]
          omega
        clear e8 e14 g8 K8 v82
        have c64 : rs s14 1064 0 = rs σ2 1064 0 := by rw [g14.nrs 1064 0 (by decide), g3.nrs 1064 0 (by decide)]
        have hspt : spNeeds ask (nodes.drop (i + 1)) (ask s1 y).1 (acc ++ t) = spNeeds ask nodes (spLay P.1 k x s) [] := by
          rw [← hsp]
          show _ = (match (ask s1 y).2.2.1 with
            | none => ((ask s1 y).1, (ask s1 y).2.1, none, (ask s1 y).2.2.2)
            | some t => spNeeds ask (nodes.drop (i + 1)) (ask s1 y).1 (acc ++ t))
          rw [hc]
        have gk2 : gok (ask s1 y).1 := ⟨r1, by have := i4c.2.1; omega, r4, e1.2.1⟩
        have ndk2 : ndK (rs σ2 1064 0) σ2 s14 := (g3.ndK (by decide)).tr (g14.ndK (by decide))
        refine ih (i + 1) (ask s1 y).1 (acc ++ t) (new ++ nw) s14 _ (by omega) (by omega) hspt ⟨⟨base1.1.tr (g14.mo (by decide)), base1.2.1.tr K14, base1.2.2.1.tr (g14.ndK (by decide)), base1.2.2.2.tr (kpp.of g14 (by decide)) (Int.le_refl _)⟩, B3.sq g14 (by decide), ⟨by rw [g14.nrs 1098 0 (by decide)]; exact c98, by rw [g14.nrs 1101 0 (by decide)]; exact e101⟩, ⟨by rw [List.append_assoc]; exact T3.sq g14 (by decide), by rw [List.append_assoc]; exact p8, gk2, i4d.gon e1 (by have := hg.2.2.2.2.2.2.1; omega)⟩, ⟨i5.tr p6 i5b, by omega, by have := e1.1; omega⟩, ⟨fun F hF => ?_, fun j j0 j1 => by rw [g14.nra 1092 0 _ (by decide)]; exact base3.2 j j0 j1⟩, ⟨r82, fun j hj => ?_⟩, (by rw [g14.nra 1084 0 _ (by decide), g14.nra 1085 0 _ (by decide), g14.nra 1086 0 _ (by decide), g14.nra 1087 0 _ (by decide)]; exact base4), ⟨by rw [g14.nrs 1097 0 (by decide)]; exact base5.1, fun j j0 j1 => by rw [g14.nra 1095 0 _ (by decide), g14.nra 1096 0 _ (by decide)]; exact base5.2 j j0 j1⟩, ⟨?_, ?_⟩, ?_, i12.tr t3 i5b hyf, ?_⟩ ((hg.tr e1).mo (by omega)) (by have := e1.1; omega) (by have := e1.1; omega) (by omega)
        · have : ∀ F, F ∈ frC → ([(1088, 0), (1082, 0)] : List (Nat × Int)).contains (F, 0) = false := by decide
          rw [g14.nra F 0 _ (this F hF)]
          exact base3.1 F hF
        · rw [g14.nra 1083 0 _ (by decide), g3.nra 1083 0 _ (by decide), p1b.2 1083 (by decide) _ (by omega)]
          exact i7b j hj
        · rw [g14.nrs 1034 0 (by decide), g3.nrs 1034 0 (by decide)]
          omega
        · rw [c64]; omega
        · rw [c64, kfL_s]
          have e88 : ∀ j : Nat, j < i → ra s14 1088 0 (4 * ((path.length : Nat) : Int) + ((j : Nat) : Int)) = ra σ1 1088 0 (4 * ((path.length : Nat) : Int) + ((j : Nat) : Int)) := fun j hj => by
            rw [r88]
            unfold upI
            rw [if_neg (by omega), g3.nra 1088 0 _ (by decide), p1b.2 1088 (by decide) _ (by omega)]
          have ek : kfL s14 1088 ((path.length : Nat) : Int) i = kfL σ1 1088 ((path.length : Nat) : Int) i := by
            unfold kfL
            exact List.map_congr_left (fun j hj => e88 j (List.mem_range.mp hj))
          have el : ra s14 1088 0 (4 * ((path.length : Nat) : Int) + ((i : Nat) : Int)) = rs σ2 1102 0 := by
            rw [r88]
            unfold upI
            rw [if_pos rfl]
          rw [ek, el]
          exact nRs_app (nRs_mo p5b.1 (nRs_K ((p1c.tr ((g3.ndK (by decide)).tr (g14.ndK (by decide))))) i11)) (nRs_K ndk2 t2)
        · obtain ⟨M', hM'⟩ := e1.2.2.2.2.2.2.2.2.2.2
          have hb := hB.2.2.2.2.2.1.1
          have hea : expT (sM (ask s1 y).1) acc = expT (sM s1) acc := by
            rw [hM']
            exact expT_app (fun m hm => by
              have := nRs_inr i11 m hm
              omega)
          rw [expT_two, List.length_append, hea]
          omega
    · -- it ended in another way
      have hno := e3 hs0
      have hspn' := hspn hno
      refine cErr (by rw [hspn']; exact hs0) σ2 ?_
      rw [hspn']
      obtain ⟨q1, q2⟩ := he
      exact ⟨i1.tr q1, q2⟩
end ZRa
