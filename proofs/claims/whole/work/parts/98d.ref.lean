/-! The reference's search as it stands; goals that only grow; back to a mark; a given one is laid. -/
def lnF : List (Nat × Int) := (1083, 0) :: lF
/-- parts of the first nodes lie below p -/
def pbd (σ : jS) (g : zH) (N p : Int) : Prop := ∀ n, 0 ≤ n → n < N → ∀ k : Nat, k < pN (gh g n) → ra σ 1029 0 n + k < p
/-- all but the nodes -/
def mB (σ : jS) (P : zP) (s : zS) (path : List (Int × Int)) : Prop :=
  mln σ ∧ mTx σ P.1 ∧ (rs σ 1015 0 = P.2.1 ∧ rs σ 1016 0 = P.2.2.1 ∧ rs σ 1108 0 = P.2.2.2.1 ∧ rs σ 1100 0 = if P.2.2.2.2 = true then 0 else 1) ∧ (rs σ 1103 0 = sA s ∧ rs σ 1104 0 = sMt s ∧ rs σ 1105 0 = sC s ∧ rs σ 1106 0 = sTr s ∧ rs σ 1107 0 = sD s) ∧ (∀ d, (h : d < path.length) → ra σ 1081 0 ((d : Nat) : Int) = (path[d]).1 ∧ ra σ 1071 0 ((d : Nat) : Int) = (path[d]).2) ∧ mMem σ (sM s) ∧ rs σ 1099 0 = -1 ∧ (8200 ≤ rs σ 1064 0 ∧ rs σ 1064 0 ≤ 8200 + sA s) ∧ 0 ≤ rs σ 1097 0
def mBF : List (Nat × Int) := [(1008, 0), (1009, 0), (1010, 0), (1011, 0), (1012, 0), (1013, 0), (1014, 0), (1026, 0), (1015, 0), (1016, 0), (1108, 0), (1100, 0), (1103, 0), (1104, 0), (1105, 0), (1106, 0), (1107, 0), (1081, 0), (1071, 0), (1052, 0), (1053, 0), (1054, 0), (1055, 0), (1056, 0), (1057, 0), (1058, 0), (1059, 0), (1060, 0), (1061, 0), (1062, 0), (1063, 0), (1065, 0), (1066, 0), (1067, 0), (1068, 0), (1069, 0), (1070, 0), (1099, 0), (1064, 0), (1097, 0)]
section ZPa
variable {n : Nat} {σ σ1 : jS} {g g' : zH} {N N' : Int} {β E : List (Int × Int)} {x f : Int} {P : zP} {s : zS} {path : List (Int × Int)} {M : zM} {T : zT}
theorem mB.sq {l : List (Nat × Int)} (h : mB σ P s path) (e : sq l σ σ1) (hl : (mBF.all (fun p => !l.contains p)) = true) : mB σ1 P s path := by
  have hm : ∀ p, p ∈ mBF → l.contains p = false := fun p hp => by
    have := List.all_eq_true.mp hl p hp
    simpa using this
  obtain ⟨h1, h2, h3, h4, h5, h6, h7, h8, h9⟩ := h
  unfold mB
  rw [e.nrs 1015 0 (hm _ (by decide)), e.nrs 1016 0 (hm _ (by decide)), e.nrs 1108 0 (hm _ (by decide)), e.nrs 1100 0 (hm _ (by decide)), e.nrs 1103 0 (hm _ (by decide)), e.nrs 1104 0 (hm _ (by decide)), e.nrs 1105 0 (hm _ (by decide)), e.nrs 1106 0 (hm _ (by decide)), e.nrs 1107 0 (hm _ (by decide)), e.nraf 1081 0 (hm _ (by decide)), e.nraf 1071 0 (hm _ (by decide)), e.nrs 1099 0 (hm _ (by decide)), e.nrs 1064 0 (hm _ (by decide)), e.nrs 1097 0 (hm _ (by decide))]
  refine ⟨h1.sq e, h2.sq e (List.all_eq_true.mpr (fun p hp => ?_)), h3, h4, h5, h6.K (e.ndK (L := 8200) (List.all_eq_true.mpr (fun p hp => ?_))) (Int.le_refl _) (e.nrs 1063 0 (hm _ (by decide))) (e.nrs 1065 0 (hm _ (by decide))) (e.nrs 1070 0 (hm _ (by decide))), h7, h8, h9⟩
  · have : ∀ p, p ∈ ([(1008, 0), (1009, 0), (1010, 0), (1011, 0), (1012, 0), (1013, 0), (1014, 0), (1026, 0)] : List (Nat × Int)) → p ∈ mBF := by decide
    rw [hm p (this p hp)]; rfl
  · have : ∀ p, p ∈ ([(1052, 0), (1053, 0), (1054, 0), (1055, 0), (1056, 0), (1057, 0), (1058, 0), (1059, 0), (1060, 0), (1061, 0), (1062, 0), (1063, 0), (1065, 0), (1066, 0), (1067, 0), (1068, 0), (1069, 0), (1070, 0)] : List (Nat × Int)) → p ∈ mBF := by decide
    rw [hm p (this p hp)]; rfl
theorem mT.pbd (h : mT σ g N β) {p : Int} (hp : rs σ 1034 0 ≤ p) : pbd σ g N p := fun n n0 n1 k hk => by
  have := (h.2.2.2.2.2.2.2.2.2.1 n n0 n1 k hk).2.1
  omega
theorem pbd.k {p : Int} (h : pbd σ g N p) (hk : kpp σ σ1 N) : pbd σ1 g N p := fun n n0 n1 k hk2 => by rw [hk n n0 n1]; exact h n n0 n1 k hk2
theorem mT_low2 (h : mT σ g' N' β) (ha : agr g g' N) (hN : N ≤ N') (h0 : 0 ≤ N) (hz : zok g N) (hb : bok g N β) (hu : zu g N ≤ 20000) {p : Int} (hp : pbd σ g N p) (p0 : 0 ≤ p) (p1 : p ≤ 40000) : mT (ws (ws σ 1033 0 N) 1034 0 p) g N β := by
  obtain ⟨b1, b2, b3, b4, b5, b6, b7, b8, b9, b10, b11, b12, b13⟩ := h
  have f : sq [(1033, 0), (1034, 0)] σ (ws (ws σ 1033 0 N) 1034 0 p) := ((sq.rf _ σ).pws 1033 0 _ (by decide)).pws 1034 0 _ (by decide)
  unfold mT
  rw [f.nraf 1028 0 (by decide), f.nraf 1029 0 (by decide), f.nraf 1030 0 (by decide), f.nraf 1031 0 (by decide), f.nraf 1032 0 (by decide), f.nrs 1035 0 (by decide)]
  have e33 : rs (ws (ws σ 1033 0 N) 1034 0 p) 1033 0 = N := by rw [rs_ws, if_neg (by decide), rs_ws, if_pos ⟨rfl, rfl⟩]
  have e34 : rs (ws (ws σ 1033 0 N) 1034 0 p) 1034 0 = p := by rw [rs_ws, if_pos ⟨rfl, rfl⟩]
  rw [e33, e34]
  refine ⟨b1.sq f, hz, hb, rfl, h0, by omega, hu, fun n n0 n1 => ?_, ⟨p0, p1⟩, fun n n0 n1 k hk2 => ?_, fun n n0 n1 hn => ?_, b12, b13⟩
  · rw [b8 n n0 (by omega), (ha n n0 n1).1]
  · have h2 := b10 n n0 (by omega) k (by rw [(ha n n0 n1).1]; exact hk2)
    rw [(ha n n0 n1).2 k] at h2
    exact ⟨h2.1, hp n n0 n1 k hk2, h2.2.2⟩
  · exact b11 n n0 (by omega) (by rw [(ha n n0 n1).1]; exact hn)
/-- back to the mark of a frame -/
theorem t_back {Q : jS → Prop} {new : List (Int × Int)} {p lm : Int} (hn : 2 ≤ n) (h : mT σ g' N' (new ++ β)) (f0 : 0 ≤ f) (f1 : f < 21) (m84 : ra σ 1084 0 f = ((β.length : Nat) : Int)) (m85 : ra σ 1085 0 f = N) (m86 : ra σ 1086 0 f = p) (m87 : ra σ 1087 0 f = lm) (ha : agr g g' N) (hN : N ≤ N') (h0 : 0 ≤ N) (hz : zok g N) (hb : bok g N β) (hu : zu g N ≤ 20000) (hp : pbd σ g N p) (p0 : 0 ≤ p) (p1 : p ≤ 40000)
    (hq : ∀ σ1, mT σ1 g N β → sq [(1030, 0), (1035, 0), (1033, 0), (1034, 0), (1064, 0)] σ σ1 → rs σ1 1034 0 = p → rs σ1 1064 0 = lm → Q σ1) : TrV n i_Model_back [jo 1 0, ji f] σ Q := by
  have l84 := mln_at h.1 1084 21 (by decide)
  have l85 := mln_at h.1 1085 21 (by decide)
  have l86 := mln_at h.1 1086 21 (by decide)
  have l87 := mln_at h.1 1087 21 (by decide)
  refine wp_Model_back ⟨by omega, by omega, f0, by omega, by omega, ?_⟩
  rw [m84]
  refine wp_Model_untie (t_untie new σ h (fun σ2 m1 m2 => ?_))
  rw [m2.nrl 1085 0, l85]
  refine ⟨by omega, by omega, fun s10 e10 => ?_⟩
  have f10 : sq [(1030, 0), (1035, 0), (1033, 0), (1034, 0), (1064, 0)] σ s10 := by rw [e10]; exact (m2.mo (by decide)).pws 1033 0 _ (by decide)
  rw [f10.nrl 1086 0, l86]
  refine ⟨by omega, by omega, fun s13 e13 => ?_⟩
  have f13 : sq [(1030, 0), (1035, 0), (1033, 0), (1034, 0), (1064, 0)] σ s13 := by rw [e13]; exact f10.pws 1034 0 _ (by decide)
  rw [f13.nrl 1087 0, l87]
  refine ⟨by omega, by omega, fun s16 e16 => ?_⟩
  have f16 : sq [(1030, 0), (1035, 0), (1033, 0), (1034, 0), (1064, 0)] σ s16 := by rw [e16]; exact f13.pws 1064 0 _ (by decide)
  have e13' : s13 = ws (ws σ2 1033 0 N) 1034 0 p := by
    rw [e13, f10.nra 1086 0 f (by decide), m86, e10, m2.nra 1085 0 f (by decide), m85]
  have t13 : mT s13 g N β := by
    rw [e13']
    exact mT_low2 m1 ha hN h0 hz hb hu (hp.k (kpp.of m2 (by decide))) p0 p1
  have q16 : sq [(1064, 0)] s13 s16 := by rw [e16]; exact (sq.rf _ s13).pws 1064 0 _ (by decide)
  refine hq s16 (t13.sq q16 (by decide)) f16 ?_ ?_
  · rw [q16.nrs 1034 0 (by decide), e13', rs_ws, if_pos ⟨rfl, rfl⟩]
  · rw [e16, rs_ws, if_pos ⟨rfl, rfl⟩, f13.nra 1087 0 f (by decide), m87]
theorem t_isCut {Q : Int → jS → Prop} {k : Int} (hn : 2 ≤ n) (h : mT σ (hG s) (hN s) β) (hr : rep (hG s) (hN s) β (hE s)) (x0 : 0 ≤ x) (x1 : x < hN s) (hxl : (rowE (hG s) (hN s) (hE s) x).length ≤ 100) (hx : ra σ 1071 0 ((path.length : Nat) : Int) = x) (hp : ∀ d, (hd : d < path.length) → ra σ 1081 0 ((d : Nat) : Int) = (path[d]).1 ∧ ra σ 1071 0 ((d : Nat) : Int) = (path[d]).2 ∧ 0 ≤ (path[d]).2 ∧ (path[d]).2 < hN s) (hd : path.length ≤ 20)
    (hq1 : cutP s path x k → ∀ σ1, sq oF σ σ1 → Q 1 σ1) (hq0 : ¬ cutP s path x k → ∀ σ1, sq oF σ σ1 → Q 0 σ1) : TrI n i_Model_isCut [jo 1 0, ji ((path.length : Nat) : Int), ji k] σ Q := by
  have hz := h.2.1
  have hb := h.2.2.1
  have rE : ∀ y, 0 ≤ y → y < hN s → rowE (hG s) (hN s) (hE s) y = cno [] (ex (hG s) (hN s) β y) := fun y y0 y1 => rowE_eq hz hr y0 y1
  have hxl0 := hxl
  rw [rE x x0 x1, cno_len] at hxl
  have l71 := mln_at h.1 1071 21 (by decide)
  have l81 := mln_at h.1 1081 21 (by decide)
  refine wp_Model_isCut ⟨by omega, by omega, by omega, by omega, by omega, ?_⟩
  rw [hx]
  refine t_layOut (by omega) h hr.2.1 x0 x1 (fun σ0 f0 hl0 => ?_)
  rw [if_pos hxl]
  have hlet := hl0.2.2.2.2
  rw [List.take_of_length_le hxl] at hlet
  generalize rs σ0 1045 0 = bx at hlet
  have loop : ∀ (j i : Nat) (σ1 : jS), i + j = path.length → sq oF σ σ1 → (∀ d, (hd : d < path.length) → d < i → ¬ ((path[d]).1 = k ∧ (rowE (hG s) (hN s) (hE s) (path[d]).2).length ≤ (rowE (hG s) (hN s) (hE s) x).length ∧ covE (rowE (hG s) (hN s) (hE s) (path[d]).2) (rowE (hG s) (hN s) (hE s) x))) → J n c_Model_isCut (some .boolean) 20 [some (jo 1 0), some (ji ((path.length : Nat) : Int)), some (ji k), some (ji (((ex (hG s) (hN s) β x).length : Nat) : Int)), some (ji bx), some (ji ((i : Nat) : Int))] [] σ1 (qI Q) := by
    intro j
    induction j with
    | zero =>
      intro i σ1 hi f1 hno
      refine wp_Model_isCut_20 ?_
      rw [if_pos (by omega)]
      refine hq0 (fun w => ?_) σ1 f1
      obtain ⟨p, hp1, hp2⟩ := w
      obtain ⟨d, hd1, hd2⟩ := List.getElem_of_mem hp1
      exact hno d hd1 (by omega) (by rw [hd2]; exact hp2)
    | succ j ih =>
      intro i σ1 hi f1 hno
      have hip : i < path.length := by omega
      obtain ⟨p1, p2, p3, p4⟩ := hp i hip
      have on : ∀ σ2, sq oF σ1 σ2 → ¬ ((path[i]).1 = k ∧ (rowE (hG s) (hN s) (hE s) (path[i]).2).length ≤ (rowE (hG s) (hN s) (hE s) x).length ∧ covE (rowE (hG s) (hN s) (hE s) (path[i]).2) (rowE (hG s) (hN s) (hE s) x)) → i32 (((i : Nat) : Int) + 1) ∧ J n c_Model_isCut (some .boolean) 20 [some (jo 1 0), some (ji ((path.length : Nat) : Int)), some (ji k), some (ji (((ex (hG s) (hN s) β x).length : Nat) : Int)), some (ji bx), some (ji (((i : Nat) : Int) + 1))] [] σ2 (qI Q) := fun σ2 c1 c2 => by
        rw [show ((i : Nat) : Int) + 1 = ((i + 1 : Nat) : Int) by omega]
        refine ⟨⟨by omega, by omega⟩, ih (i + 1) σ2 (by omega) (f1.tr c1) (fun d hd1 hd2 => ?_)⟩
        by_cases w : d = i
        · subst w; exact c2
        · exact hno d hd1 (by omega)
      refine wp_Model_isCut_20 ?_
      rw [if_neg (by omega), f1.nra 1081 0 _ (by decide), f1.nrl 1081 0, f1.nra 1071 0 _ (by decide), f1.nrl 1071 0, p1, p2, l81, l71]
      refine ⟨by omega, by omega, by omega, by omega, ?_⟩
      by_cases q : (path[i]).1 = k
      · rw [if_neg (fun w => w q)]
        refine ⟨by omega, by omega, by omega, t_layOut (by omega) (h.sq f1 (by decide)) hr.2.1 p3 p4 (fun σ2 f2 hl2 => ?_)⟩
        have r1 := rE (path[i]).2 p3 p4
        have r2 := rE x x0 x1
        have len1 := cno_len (ex (hG s) (hN s) β (path[i]).2) []
        have len2 := cno_len (ex (hG s) (hN s) β x) []
        have hv10 : (if (ex (hG s) (hN s) β (path[i]).2).length ≤ 100 then (((ex (hG s) (hN s) β (path[i]).2).length : Nat) : Int) else 101) ≤ (((ex (hG s) (hN s) β x).length : Nat) : Int) ↔ (ex (hG s) (hN s) β (path[i]).2).length ≤ (ex (hG s) (hN s) β x).length := by
          split <;> omega
        generalize (if (ex (hG s) (hN s) β (path[i]).2).length ≤ 100 then (((ex (hG s) (hN s) β (path[i]).2).length : Nat) : Int) else 101) = v10 at hv10
        by_cases q2 : (ex (hG s) (hN s) β (path[i]).2).length ≤ (ex (hG s) (hN s) β x).length
        · have := hv10.mpr q2
          rw [if_neg (by omega)]
          have hlet2 := hl2.2.2.2.2
          rw [List.take_of_length_le (by omega)] at hlet2
          by_cases q3 : rs σ2 1045 0 = bx
          · rw [if_neg (fun w => w q3)]
            refine hq1 ⟨path[i], List.getElem_mem hip, q, by rw [r1, r2]; omega, ?_⟩ σ2 (f1.tr f2)
            rw [r1, r2]
            exact covE_cno.mpr ((ltr_cov hlet2 hlet).mp q3)
          · rw [if_pos q3]
            refine on σ2 f2 (fun w => q3 ((ltr_cov hlet2 hlet).mpr ?_))
            have := w.2.2
            rw [r1, r2] at this
            exact covE_cno.mp this
        · have : ¬ v10 ≤ _ := fun w => q2 (hv10.mp w)
          rw [if_pos (by omega)]
          exact on σ2 f2 (fun w => q2 (by have := w.2.1; rw [r1, r2, len1, len2] at this; exact this))
      · rw [if_pos q]
        exact on σ1 (sq.rf _ _) (fun w => q w.1)
  exact loop path.length 0 σ0 (by omega) f0 (fun d _ h0 => absurd h0 (Nat.not_lt_zero d))
/-- the NEEDS of a given one are laid -/
theorem t_layNs {Q : jS → Prop} {k d rt : Int} (hn : 3 ≤ n) (hT : tok T) (k0 : 0 ≤ k) (k1 : k < tG T) (d0 : 0 ≤ d) (d1 : d < 21) :
    ∀ (j i : Nat) (g : zH) (N : Int) (vs : Int → Int) (σ1 : jS), ((i + j : Nat) : Int) = tN T k → mT σ1 g N β → mV σ1 vs → vok g N vs → mTx σ1 T → N + 12 * (j : Nat) ≤ 40000 → rs σ1 1034 0 + 12 * (j : Nat) ≤ 40000 → zu g N + unu vs ≤ 20000 → (∀ σ2, mT σ2 (layNs T k j (i + 1) g N vs).1 (layNs T k j (i + 1) g N vs).2.1 β → sq lnF σ1 σ2 → kpp σ1 σ2 N → rs σ2 1034 0 ≤ rs σ1 1034 0 + 12 * (j : Nat) → (∀ i' : Nat, i' < j → ra σ2 1083 0 (4 * d + ((i : Nat) : Int) + ((i' : Nat) : Int)) = (layNs T k j (i + 1) g N vs).2.2.2.getD i' 0) → (∀ z, z < 4 * d + ((i : Nat) : Int) → ra σ2 1083 0 z = ra σ1 1083 0 z) → J n c_Model_tryGiven none 74 [some (jo 1 0), some (ji d), some (ji k), some (ji rt), some (ji (tN T k + 1))] [] σ2 (qV Q)) → J n c_Model_tryGiven none 74 [some (jo 1 0), some (ji d), some (ji k), some (ji rt), some (ji (((i : Nat) : Int) + 1))] [] σ1 (qV Q) := by
  intro j
  induction j with
  | zero =>
    intro i g N vs σ1 hi h hV hv hx hN hp hz hq
    rw [show ((i : Nat) : Int) + 1 = tN T k + 1 by omega]
    exact hq σ1 h (sq.rf _ σ1) (kpp.rf _ _) (by omega) (fun i' hi' => absurd hi' (Nat.not_lt_zero i')) (fun _ _ => rfl)
  | succ j ih =>
    intro i g N vs σ1 hi h hV hv hx hN hp hz hq
    have hG := hT.2.2.2.1
    have hgk := hT.2.2.2.2.2 k k0 k1
    obtain ⟨r1, r2, r3⟩ := hgk.2.2.2.2 (i + 1) (by omega)
    have l10 := mln_at h.1 1010 24 (by decide)
    have l11 := mln_at h.1 1011 1440 (by decide)
    have l12 := mln_at h.1 1012 120 (by decide)
    have l83 := mln_at h.1 1083 84 (by decide)
    have e10 := (hx.2.2.2.2.1 k k0 k1).2.1
    have e12 := (hx.2.2.2.2.1 k k0 k1).2.2 (i + 1) (by omega)
    have hN4 := hgk.2.2.2.1
    refine wp_Model_tryGiven_74 ⟨by omega, by omega, k0, by omega, ?_⟩
    rw [e10, if_neg (by omega)]
    refine ⟨by omega, ⟨by omega, by omega⟩, ⟨by omega, by omega⟩, ⟨by omega, by omega⟩, by omega, wp_Model_layGiven ?_⟩
    rw [if_pos (by omega)]
    refine wp_Model_layGiven_8 ⟨by omega, by omega, ⟨by omega, by omega⟩, ⟨by omega, by omega⟩, ⟨by omega, by omega⟩, by omega, by omega, by omega, by omega, ?_⟩
    rw [show 5 * k + (((i : Nat) : Int) + 1) = 5 * k + ((i + 1 : Nat) : Int) by omega, e12.1]
    refine t_layRow (by omega) h hV hv rfl rfl (by decide) (by omega) (by omega) e12.2 r2 r1 (by omega) (by omega) hz (by omega) (by omega) (fun σ2 hl => ?_)
    obtain ⟨a1, a2, a3, a4, a5, a6, a7, a8⟩ := hl
    have hrt := lay_root a8 r1
    obtain ⟨b1, b2, -, b4, b5, -, -, -, -, -, -, b12, -⟩ := a8
    rw [a3.nrl 1083 0, l83]
    refine ⟨by omega, by omega, fun s20 e20 => ⟨⟨by omega, by omega⟩, ?_⟩⟩
    have f20 : sq [(1083, 0)] σ2 s20 := by rw [e20]; exact (sq.rf _ σ2).pwa 1083 0 _ _ (by decide)
    have r20 : ra s20 1083 0 = upI (ra σ2 1083 0) (4 * d + (((i : Nat) : Int) + 1) - 1) ((layR (tR T k (i + 1)) g N vs).2.2.2.headD 0) := by
      rw [e20]
      unfold wa
      rw [raf_wA, if_pos ⟨rfl, rfl⟩]
    have e34 : rs s20 1034 0 = rs σ2 1034 0 := f20.nrs 1034 0 (by decide)
    have e83 : ra σ2 1083 0 = ra σ1 1083 0 := a3.nraf 1083 0 (by decide)
    have hpl : rs σ2 1034 0 ≤ rs σ1 1034 0 + 12 := by omega
    rw [show ((i : Nat) : Int) + 1 + 1 = ((i + 1 : Nat) : Int) + 1 by omega]
    refine ih (i + 1) _ _ _ s20 (by omega) (a1.sq f20 (by decide)) (fun v v0 v1 => by rw [f20.nraf 1036 0 (by decide)]; exact a2 v v0 v1) b5 ((hx.sq a3 (by decide)).sq f20 (by decide)) (by omega) (by omega) (by omega) (fun σ3 c1 c2 c3 c4 c5 c6 => hq σ3 c1 (((a3.mo (by decide)).tr (f20.mo (by decide))).tr c2) (((a4.tr (kpp.of f20 (by decide)) (Int.le_refl _))).tr c3 (by omega)) (by omega) (fun i' hi' => ?_) (fun z hz2 => ?_))
    · cases i' with
      | zero =>
        rw [c6 _ (by omega), r20]
        unfold upI
        rw [if_pos (by omega)]
        rfl
      | succ i' =>
        have := c5 i' (by omega)
        rw [show 4 * d + ((i : Nat) : Int) + ((i' + 1 : Nat) : Int) = 4 * d + ((i + 1 : Nat) : Int) + ((i' : Nat) : Int) by omega, this]
        rfl
    · rw [c6 z (by omega), r20]
      unfold upI
      rw [if_neg (by omega), e83]
end ZPa
