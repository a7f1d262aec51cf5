/-! A level's rounds, the levels one behind another: the reference. -/
/-- a goal's frame, nothing having done well -/
def fBas (P : zP) (σ0 σ : jS) (s0 s : zS) (path β : List (Int × Int)) (x cl cu : Int) : Prop :=
  (sq agF σ0 σ ∧ frK ((path.length : Nat) : Int) σ0 σ ∧ ndK (rs σ0 1064 0) σ0 σ ∧ kpp σ0 σ (hN s0)) ∧ mB σ P s path ∧ (rs σ 1098 0 = ((path.length : Nat) : Int) + 1 ∧ rs σ 1101 0 = 0) ∧
  (mT σ (hG s) (hN s) β ∧ rep (hG s) (hN s) β (hE s) ∧ gok s ∧ bI s0 s none ∧ nOk s ∧ sA s0 ≤ sA s) ∧
  (ra σ 1071 0 ((path.length : Nat) : Int) = x ∧ ra σ 1072 0 ((path.length : Nat) : Int) = cl ∧ ra σ 1073 0 ((path.length : Nat) : Int) = cu ∧ ra σ 1093 0 ((path.length : Nat) : Int) = rs σ0 1097 0) ∧
  (∀ j : Int, 0 ≤ j → j < rs σ0 1097 0 → ra σ 1095 0 j = ra σ0 1095 0 j ∧ ra σ 1096 0 j = ra σ0 1096 0 j) ∧ rs σ 1097 0 = rs σ0 1097 0 ∧ rs σ 1064 0 = rs σ0 1064 0 ∧ rs σ 1034 0 = rs σ0 1034 0
section ZUb
variable {n : Nat} {σ0 σ σ1 : jS} {β : List (Int × Int)} {x cl cu cds lvl sc fl : Int} {P : zP} {s0 s : zS} {path : List (Int × Int)} {C : List Int} {i : Nat} {another : Option Int} {LP : jS → Prop} {ask : Int → zS → Int → zS × zQ}
theorem fInv.bas (h : fInv P σ0 σ s0 s path β x cl cu cds lvl sc C fl i none another) : fBas P σ0 σ s0 s path β x cl cu ∧ ra σ 1089 0 ((path.length : Nat) : Int) = 0 ∧ another = none := by
  obtain ⟨j1, jB, j3, j4, j5, j6, j7, j8, j9, j10⟩ := h
  obtain ⟨o1, o2, o3, o4, o5⟩ := j9
  exact ⟨⟨j1, jB, j3, j4, j5, j8, o3, o4, o5⟩, o2, o1⟩
theorem fBas.inv (h : fBas P σ0 σ s0 s path β x cl cu) (h74 : ra σ 1074 0 ((path.length : Nat) : Int) = sc) (h75 : ra σ 1075 0 ((path.length : Nat) : Int) = lvl) (h77 : ra σ 1077 0 ((path.length : Nat) : Int) = cds) (h78 : ra σ 1078 0 ((path.length : Nat) : Int) = fl) (h80 : ra σ 1080 0 ((path.length : Nat) : Int) = 0) (h89 : ra σ 1089 0 ((path.length : Nat) : Int) = 0) (h76 : bse (ra σ 1076 0 ((path.length : Nat) : Int)) (fun c => c ∈ C)) (h79 : bse (ra σ 1079 0 ((path.length : Nat) : Int)) (fun c => c ∈ bstL P.1 C)) (hf : 0 ≤ fl) : fInv P σ0 σ s0 s path β x cl cu cds lvl sc C fl 0 none none := by
  obtain ⟨j1, jB, j3, j4, j5, j8, o3, o4, o5⟩ := h
  exact ⟨j1, jB, j3, j4, j5, ⟨h74, h75, h77, h78, h80, by omega, by omega⟩, ⟨h76, h79⟩, j8, ⟨rfl, h89, o3, o4, o5⟩, hf⟩
theorem fBas.sq (h : fBas P σ0 σ s0 s path β x cl cu) (e : sq olF σ σ1) (hK : frK ((path.length : Nat) : Int) σ σ1) (hp : kpp σ σ1 (hN s)) (hT : mT σ1 (hG s) (hN s) β) (h34 : rs σ1 1034 0 = rs σ 1034 0) : fBas P σ0 σ1 s0 s path β x cl cu := by
  obtain ⟨⟨j1, j1b, j1c, j1d⟩, jB, ⟨j3, j3b⟩, ⟨j4, j4b, j4c, j4d, j4e, j4f⟩, ⟨j5, j5b, j5c, j5d⟩, j8, o3, o4, o5⟩ := h
  refine ⟨⟨j1.tr (e.mo (by decide)), j1b.tr hK, j1c.tr (e.ndK (by decide)), j1d.tr hp j4d.2.1⟩, jB.sq e (by decide), ⟨by rw [e.nrs 1098 0 (by decide)]; exact j3, by rw [e.nrs 1101 0 (by decide)]; exact j3b⟩, ⟨hT, j4b, j4c, j4d, j4e, j4f⟩, ⟨?_, ?_, ?_, ?_⟩, fun j y0 y1 => ?_, ?_, ?_, by rw [h34]; exact o5⟩
  · rw [e.nra 1071 0 _ (by decide)]; exact j5
  · rw [e.nra 1072 0 _ (by decide)]; exact j5b
  · rw [e.nra 1073 0 _ (by decide)]; exact j5c
  · rw [e.nra 1093 0 _ (by decide)]; exact j5d
  · rw [e.nra 1095 0 _ (by decide), e.nra 1096 0 _ (by decide)]; exact j8 j y0 y1
  · rw [e.nrs 1097 0 (by decide)]; exact o3
  · rw [e.nrs 1064 0 (by decide)]; exact o4
theorem bse_cut {b b' : Int} {T : zT} (hb : bse b (fun c => c ∈ C)) (hb' : bse b' (fun c => c ∈ bstL T C)) : bse (bAnd b (bXor b' (-1))) (fun c => c ∈ C.filter (fun k => !(bstL T C).contains k)) := by
  refine ⟨i32_bAnd _ _, fun k k0 k1 => ?_⟩
  show tb (bAnd b (bXor b' (-1))) k = true ↔ k ∈ C.filter (fun k => !(bstL T C).contains k)
  rw [tb_and, tb_xor, tb_m1 k1, List.mem_filter]
  have e1 : tb b k = true ↔ k ∈ C := hb.2 k k0 k1
  have e2 : tb b' k = true ↔ k ∈ bstL T C := hb'.2 k k0 k1
  rw [← List.contains_iff_mem] at e2
  have e3 : tb b' k = (bstL T C).contains k := Bool.eq_iff_iff.mpr e2
  rw [e3, Bool.and_eq_true, e1, Bool.xor_true]
/-- nothing did well -/
theorem t_end67 {nS : Nat} (hnS : 10 ≤ nS) (hd : path.length < 20) (hC : ∀ k, k ∈ C → 0 ≤ k ∧ k < tG P.1) (hsc : 0 ≤ sc ∧ sc < tS P.1) (hlv : 0 ≤ lvl ∧ lvl < 100) (hF : fInv P σ0 σ s0 s path β x cl cu cds lvl sc C fl 24 none another)
    (hNew : ¬ C.filter (fun k => !(bstL P.1 C).contains k) = [] → ∀ σ', fInv P σ0 σ' s0 s path β x cl cu cds lvl sc (C.filter (fun k => !(bstL P.1 C).contains k)) fl 0 none none → LP σ')
    (hNx : C.filter (fun k => !(bstL P.1 C).contains k) = [] → ∀ σ', fBas P σ0 σ' s0 s path β x cl cu → if tA P.1 sc = -1 then TrV (nS - 1) i_Model_leave [jo 1 0, ji ((path.length : Nat) : Int), ji (-1)] σ' LP else TrV (nS - 1) i_Model_openLevel [jo 1 0, ji ((path.length : Nat) : Int), ji (tA P.1 sc), ji (lvl + 1)] σ' LP) : J nS c_Model_step none 67 [some (jo 1 0), some (ji ((path.length : Nat) : Int)), none] [] σ (qV LP) := by
  obtain ⟨hb, h89, -⟩ := hF.bas
  obtain ⟨-, jB, -, -, -, ⟨j6, j6b, j6c, j6d, j6e, -, -⟩, ⟨j7, j7b⟩, -, -, j10⟩ := hF
  have hT := jB.2.1.1
  have hG24 := hT.2.2.2.1
  have l80 := mln_at jB.1 1080 21 (by decide)
  have l89 := mln_at jB.1 1089 21 (by decide)
  have l76 := mln_at jB.1 1076 21 (by decide)
  have l79 := mln_at jB.1 1079 21 (by decide)
  refine wp_Model_step_67 ⟨by omega, by omega, by omega, by omega, ?_⟩
  rw [j6e, if_pos (by omega)]
  refine ⟨by omega, by omega, ?_⟩
  rw [if_pos (by omega), if_pos (by omega)]
  refine ⟨by omega, by omega, by omega, by omega, fun s11 e11 => ?_⟩
  have f11 : sq [(1076, 0)] σ s11 := by rw [e11]; exact (sq.rf _ σ).pwa 1076 0 _ _ (by decide)
  have k11 : frK ((path.length : Nat) : Int) σ s11 := by rw [e11]; exact frK_up (frK.rf _ _) (by decide) (Int.le_refl _)
  have r11 : bse (ra s11 1076 0 ((path.length : Nat) : Int)) (fun c => c ∈ C.filter (fun k => !(bstL P.1 C).contains k)) := by
    rw [e11, wa_at]
    exact bse_cut j7 j7b
  clear e11
  have hb11 : fBas P σ0 s11 s0 s path β x cl cu := hb.sq (f11.mo (by decide)) k11 (kpp.of f11 (by decide)) (hb.2.2.2.1.1.sq f11 (by decide)) (f11.nrs 1034 0 (by decide))
  have B11 := hb11.2.1
  have hx8 := B11.2.1.2.2.2.1 sc hsc.1 hsc.2
  rw [mln_at B11.1 1076 21 (by decide), mln_at B11.1 1074 21 (by decide), mln_at B11.1 1075 21 (by decide), f11.nra 1074 0 _ (by decide), f11.nra 1075 0 _ (by decide), j6, j6b, hx8]
  refine ⟨by omega, by omega, ?_⟩
  by_cases qC : C.filter (fun k => !(bstL P.1 C).contains k) = []
  · rw [qC] at r11
    rw [if_pos (bse_nil r11)]
    refine ⟨by omega, by omega, ?_⟩
    have hnx := hNx qC s11 hb11
    rw [if_neg (by omega)]
    have l08 := mln_at B11.1 1008 8 (by decide)
    have hS8 := hT.2.1
    refine ⟨by omega, by omega, by omega, ?_⟩
    by_cases q : tA P.1 sc = -1
    · rw [if_pos q] at hnx ⊢
      exact ⟨by omega, hnx⟩
    · rw [if_neg q] at hnx ⊢
      exact ⟨by omega, by omega, ⟨by omega, by omega⟩, by omega, hnx⟩
  · obtain ⟨k9, hk9⟩ := List.exists_mem_of_ne_nil _ qC
    have hk9r := hC k9 (List.mem_filter.mp hk9).1
    rw [if_neg (bse_mem r11 hk9 hk9r.1 (by omega))]
    refine ⟨by omega, t_newRound (by omega) B11.1 B11.2.1 (by omega) (by omega) (fun k hk => hC k (List.mem_filter.mp hk).1) r11 (fun σ' q k hbs r80 r89 => hNew qC σ' ?_)⟩
    have hb2 := hb11.sq (q.mo (by decide)) k (kpp.of q (by decide)) (hb11.2.2.2.1.1.sq q (by decide)) (q.nrs 1034 0 (by decide))
    refine hb2.inv ?_ ?_ ?_ ?_ r80 r89 (by rw [q.nra 1076 0 _ (by decide)]; exact r11) hbs j10
    · rw [q.nra 1074 0 _ (by decide), f11.nra 1074 0 _ (by decide)]; exact j6
    · rw [q.nra 1075 0 _ (by decide), f11.nra 1075 0 _ (by decide)]; exact j6b
    · rw [q.nra 1077 0 _ (by decide), f11.nra 1077 0 _ (by decide)]; exact j6c
    · rw [q.nra 1078 0 _ (by decide), f11.nra 1078 0 _ (by decide)]; exact j6d
theorem spBest_nil {lv2 cd2 unt : Int} {s' : zS} {fl' : Int} {one' : Option (Int × List zI × List (Int × Int))} {an' : Option Int} (h : spBest P ask path x lv2 cd2 unt [] s' fl' one' an' = (s, (0, none, noQ), fl)) : one' = none ∧ s' = s ∧ fl' = fl := by
  cases one' with
  | none =>
    unfold spBest at h
    exact ⟨rfl, congrArg (·.1) h, congrArg (·.2.2) h⟩
  | some o =>
    cases an' with
    | none =>
      unfold spBest at h
      have : some _ = (none : Option (List zI)) := congrArg (·.2.1.2.1) h
      cases this
    | some b =>
      unfold spBest at h
      have : (2 : Int) = 0 := congrArg (·.2.1.1) h
      omega
end ZUb
