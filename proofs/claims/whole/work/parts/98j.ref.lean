/-! The best are never none; a new round, a level is opened: the reference. -/
theorem rdk_sbt {θ : Int → List Int} (hθ : ∀ v, Typ (θ v)) : ∀ {l : List Int} {k : Nat}, rdk l k = some [] → rdk (sbt θ l) k = some [] := by
  intro l
  induction l with
  | nil => intro k h; exact h
  | cons t l ih =>
    intro k h
    cases k with
    | zero => rw [rdk_0] at h; cases h
    | succ k =>
      have h2 : rdk l (k + pN t) = some [] := h
      by_cases q : t < 0
      · rw [sbt_cons_v q, show k + 1 = 1 + k by omega, rdk_add, Typ_app (hθ t)]
        unfold pN at h2
        rw [if_pos q] at h2
        exact ih h2
      · rw [sbt_cons_c q]
        exact ih h2
theorem sbt_sbt (θ1 θ2 : Int → List Int) : ∀ l : List Int, sbt θ2 (sbt θ1 l) = sbt (fun v => sbt θ2 (θ1 v)) l := by
  intro l
  induction l with
  | nil => rfl
  | cons t l ih =>
    by_cases q : t < 0
    · rw [sbt_cons_v q, sbt_cons_v q, sbt_app, ih]
    · rw [sbt_cons_c q, sbt_cons_c q, sbt_cons_c q, ih]
theorem becm_tr {a b c : List Int} (h : becm a b) (h' : becm b c) : becm a c := by
  obtain ⟨θ1, a1, a2⟩ := h
  obtain ⟨θ2, b1, b2⟩ := h'
  exact ⟨fun v => sbt θ2 (θ1 v), fun v => rdk_sbt b1 (a1 v), by rw [← sbt_sbt, a2, b2]⟩
theorem spc_tr {T : zT} {i j k : Int} (h : spc T i j) (h' : spc T j k) : spc T i k := ⟨becm_tr h'.1 h.1, fun w => h.2 (becm_tr w h'.1)⟩
theorem spc_ir {T : zT} {i : Int} : ¬ spc T i i := fun h => h.2 h.1
theorem spc_max {T : zT} : ∀ {l : List Int}, ¬ l = [] → ∃ m, m ∈ l ∧ ∀ c, c ∈ l → ¬ spc T c m := by
  intro l
  induction l with
  | nil => intro h; exact absurd rfl h
  | cons a l ih =>
    intro _
    by_cases q : l = []
    · subst q
      refine ⟨a, List.mem_cons_self, fun c hc => ?_⟩
      cases hc with
      | head => exact spc_ir
      | tail _ w => cases w
    · obtain ⟨m, m1, m2⟩ := ih q
      by_cases q2 : spc T a m
      · refine ⟨a, List.mem_cons_self, fun c hc w => ?_⟩
        cases hc with
        | head => exact spc_ir w
        | tail _ hc => exact m2 c hc (spc_tr w q2)
      · refine ⟨m, List.mem_cons_of_mem _ m1, fun c hc => ?_⟩
        cases hc with
        | head => exact q2
        | tail _ hc => exact m2 c hc
theorem bst_ne {T : zT} {C : List Int} (h : ¬ C = []) : ¬ bstL T C = [] := by
  obtain ⟨m, m1, m2⟩ := spc_max (T := T) h
  have : m ∈ bstL T C := List.mem_filter.mpr ⟨m1, dcd_iff.mpr m2⟩
  intro e
  rw [e] at this
  cases this
theorem bst_lt {T : zT} {C : List Int} (h : ¬ C = []) : (C.filter (fun k => !(bstL T C).contains k)).length < C.length := by
  have h1 := bst_two T C
  have h2 := bst_ne (T := T) h
  have : 0 < (bstL T C).length := List.length_pos_iff.mpr h2
  omega
theorem wa_at (σ : jS) (F : Nat) (i v : Int) : ra (wa σ F 0 i v) F 0 i = v := by
  unfold wa
  rw [raf_wA, if_pos ⟨rfl, rfl⟩]
  unfold upI
  rw [if_pos rfl]
/-- what a level, a round are told by -/
def nrF : List (Nat × Int) := [(1079, 0), (1080, 0), (1089, 0)]
def olF : List (Nat × Int) := [(1074, 0), (1075, 0), (1076, 0), (1077, 0), (1078, 0), (1079, 0), (1080, 0), (1089, 0), (1028, 0), (1029, 0), (1030, 0), (1031, 0), (1032, 0), (1033, 0), (1034, 0), (1035, 0), (1036, 0), (1037, 0), (1038, 0), (1039, 0), (1040, 0)]
section ZUa
variable {n : Nat} {σ σ1 : jS} {β : List (Int × Int)} {x f : Int} {P : zP} {s : zS} {path : List (Int × Int)} {C : List Int}
theorem t_newRound {Q : jS → Prop} (hn : 2 ≤ n) (hm : mln σ) (hx : mTx σ P.1) (f0 : 0 ≤ f) (f1 : f < 21) (hC : ∀ k, k ∈ C → 0 ≤ k ∧ k < tG P.1) (hb : bse (ra σ 1076 0 f) (fun c => c ∈ C))
    (hq : ∀ σ', sq nrF σ σ' → frK f σ σ' → bse (ra σ' 1079 0 f) (fun c => c ∈ bstL P.1 C) → ra σ' 1080 0 f = 0 → ra σ' 1089 0 f = 0 → Q σ') : TrV n i_Model_newRound [jo 1 0, ji f] σ Q := by
  have l79 := mln_at hm 1079 21 (by decide)
  have l76 := mln_at hm 1076 21 (by decide)
  have l80 := mln_at hm 1080 21 (by decide)
  have l89 := mln_at hm 1089 21 (by decide)
  have hbst : ∀ k, k ∈ bstL P.1 C → k ∈ C := fun k hk => (List.mem_filter.mp hk).1
  refine wp_Model_newRound ⟨by omega, by omega, by omega, by omega, by omega, by omega, t_bestOf (by omega) hm hx hb (fun b' hb' => ⟨by omega, fun s9 e9 => ?_⟩)⟩
  have hbs : bse b' (fun k => k ∈ bstL P.1 C) := ⟨hb'.1, fun k k0 k1 => (hb'.2 k k0 k1).trans ⟨fun w => List.mem_filter.mpr ⟨w.2.2.1, dcd_iff.mpr (fun c hc => w.2.2.2 c (hC c hc).1 (hC c hc).2 hc)⟩, fun w => ⟨(hC k (hbst k w)).1, (hC k (hbst k w)).2, hbst k w, fun c _ _ hc => dcd_iff.mp (List.mem_filter.mp w).2 c hc⟩⟩⟩
  have f9 : sq nrF σ s9 := by rw [e9]; exact (sq.rf _ σ).pwa 1079 0 _ _ (by decide)
  have k9 : frK f σ s9 := by rw [e9]; exact frK_up (frK.rf _ _) (by decide) (Int.le_refl _)
  have r9 : ra s9 1079 0 f = b' := by rw [e9]; exact wa_at _ _ _ _
  clear e9
  rw [f9.nrl 1080 0, l80]
  refine ⟨by omega, by omega, fun s12 e12 => ?_⟩
  have g12 : sq [(1080, 0)] s9 s12 := by rw [e12]; exact (sq.rf _ s9).pwa 1080 0 _ _ (by decide)
  have f12 : sq nrF σ s12 := f9.tr (g12.mo (by decide))
  have k12 : frK f σ s12 := by rw [e12]; exact frK_up k9 (by decide) (Int.le_refl _)
  have r12 : ra s12 1080 0 f = 0 := by rw [e12]; exact wa_at _ _ _ _
  clear e12
  rw [f12.nrl 1089 0, l89]
  refine ⟨by omega, by omega, fun s15 e15 => ?_⟩
  have g15 : sq [(1089, 0)] s12 s15 := by rw [e15]; exact (sq.rf _ s12).pwa 1089 0 _ _ (by decide)
  have k15 : frK f σ s15 := by rw [e15]; exact frK_up k12 (by decide) (Int.le_refl _)
  have r15 : ra s15 1089 0 f = 0 := by rw [e15]; exact wa_at _ _ _ _
  clear e15
  exact hq s15 (f12.tr (g15.mo (by decide))) k15 (by rw [g15.nra 1079 0 _ (by decide), g12.nra 1079 0 _ (by decide), r9]; exact hbs) (by rw [g15.nra 1080 0 _ (by decide), r12]) r15
/-- how many: as many as the list -/
theorem bits_len {p : Int → Bool} {b : Int} (hT : tok P.1) (hb : bse b (fun k => k ∈ (zrg (tG P.1)).filter p)) : (0 ≤ b ∧ b < 2147483648) ∧ tbn 32 b = (((zrg (tG P.1)).filter p).length : Nat) := by
  have hG24 := hT.2.2.2.1
  have hm : ∀ k, k ∈ (zrg (tG P.1)).filter p ↔ (p k && decide (0 ≤ k) && decide (k < tG P.1)) = true := fun k => by
    rw [List.mem_filter, mem_zrg_iff, Bool.and_eq_true, Bool.and_eq_true, decide_eq_true_iff, decide_eq_true_iff]
    exact ⟨fun w => ⟨⟨w.2, w.1.1⟩, w.1.2⟩, fun w => ⟨⟨w.1.2, w.2⟩, w.1.1⟩⟩
  have hlt : ∀ k, (p k && decide (0 ≤ k) && decide (k < tG P.1)) = true → k < tG P.1 := fun k hk => by
    rw [Bool.and_eq_true, decide_eq_true_iff] at hk
    exact hk.2
  have hb31 : tb b 31 = false := Bool.eq_false_iff.mpr (fun w => by
    have := hlt _ ((hm 31).mp ((hb.2 31 (by decide) (by decide)).mp w))
    omega)
  refine ⟨⟨tb_pos hb.1 hb31, hb.1.2⟩, ?_⟩
  rw [tbn_len (p := fun k => p k && decide (0 ≤ k) && decide (k < tG P.1)) 32 (fun k k0 k1 => (hb.2 k k0 k1).trans (hm k))]
  obtain ⟨j, hj⟩ := Int.eq_ofNat_of_zero_le (show 0 ≤ 32 - tG P.1 by omega)
  rw [show ((32 : Nat) : Int) = tG P.1 + (j : Nat) by omega, zrg_cut hT.2.2.1 hlt j]
  congr 2
  refine List.filter_congr (fun k hk => ?_)
  have := mem_zrg_iff.mp hk
  show (p k && decide (0 ≤ k) && decide (k < tG P.1)) = p k
  rw [decide_eq_true this.1, decide_eq_true this.2, Bool.and_true, Bool.and_true]
theorem t_openLevel {Q : jS → Prop} {sc lvl : Int} (hn : 4 ≤ n) (hB : mB σ P s path) (hH : mT σ (hG s) (hN s) β) (hrep : rep (hG s) (hN s) β (hE s)) (hgs : gok s) (x0 : 0 ≤ x) (x1 : x < hN s) (hxl : (ex (hG s) (hN s) β x).length ≤ 100) (hN1 : hN s + 12 ≤ 40000) (hp1 : rs σ 1034 0 + 12 ≤ 40000) (hz1 : zu (hG s) (hN s) + 26 ≤ 20000) (sc0 : 0 ≤ sc) (sc1 : sc < tS P.1) (f0 : 0 ≤ f) (f1 : f < 21) (hx : ra σ 1071 0 f = x)
    (hq : ∀ σ', sq olF σ σ' → frK f σ σ' → kpp σ σ' (hN s) → mT σ' (hG s) (hN s) β → rs σ' 1034 0 = rs σ 1034 0 → (ra σ' 1074 0 f = sc ∧ ra σ' 1075 0 f = lvl ∧ ra σ' 1077 0 f = ((canL P s x sc).length : Nat) ∧ ra σ' 1078 0 f = 0 ∧ ra σ' 1080 0 f = 0 ∧ ra σ' 1089 0 f = 0) → bse (ra σ' 1076 0 f) (fun c => c ∈ canL P s x sc) → bse (ra σ' 1079 0 f) (fun c => c ∈ bstL P.1 (canL P s x sc)) → Q σ') : TrV n i_Model_openLevel [jo 1 0, ji f, ji sc, ji lvl] σ Q := by
  have hm := hB.1
  have l74 := mln_at hm 1074 21 (by decide)
  have l75 := mln_at hm 1075 21 (by decide)
  have l76 := mln_at hm 1076 21 (by decide)
  have l77 := mln_at hm 1077 21 (by decide)
  have l78 := mln_at hm 1078 21 (by decide)
  have l79 := mln_at hm 1079 21 (by decide)
  have l80 := mln_at hm 1080 21 (by decide)
  have l71 := mln_at hm 1071 21 (by decide)
  refine wp_Model_openLevel ⟨by omega, by omega, f0, by omega, fun s3 e3 => ?_⟩
  have f3 : sq olF σ s3 := by rw [e3]; exact (sq.rf _ σ).pwa 1074 0 _ _ (by decide)
  have k3 : frK f σ s3 := by rw [e3]; exact frK_up (frK.rf _ _) (by decide) (Int.le_refl _)
  have g3 : sq [(1074, 0), (1075, 0), (1076, 0), (1078, 0), (1079, 0), (1080, 0)] σ s3 := by rw [e3]; exact (sq.rf _ σ).pwa 1074 0 _ _ (by decide)
  have r3 : ra s3 1074 0 f = sc := by rw [e3]; exact wa_at _ _ _ _
  clear e3
  rw [g3.nrl 1075 0, l75]
  refine ⟨by omega, by omega, fun s7 e7 => ?_⟩
  have h7 : sq [(1075, 0)] s3 s7 := by rw [e7]; exact (sq.rf _ s3).pwa 1075 0 _ _ (by decide)
  have k7 : frK f σ s7 := by rw [e7]; exact frK_up k3 (by decide) (Int.le_refl _)
  have r7 : ra s7 1075 0 f = lvl := by rw [e7]; exact wa_at _ _ _ _
  have g7 := g3.tr (h7.mo (l' := [(1074, 0), (1075, 0), (1076, 0), (1078, 0), (1079, 0), (1080, 0)]) (by decide))
  clear e7
  rw [g7.nrl 1076 0, l76]
  refine ⟨by omega, by omega, fun s10 e10 => ?_⟩
  have h10 : sq [(1076, 0)] s7 s10 := by rw [e10]; exact (sq.rf _ s7).pwa 1076 0 _ _ (by decide)
  have k10 : frK f σ s10 := by rw [e10]; exact frK_up k7 (by decide) (Int.le_refl _)
  have g10 := g7.tr (h10.mo (l' := [(1074, 0), (1075, 0), (1076, 0), (1078, 0), (1079, 0), (1080, 0)]) (by decide))
  clear e10
  rw [g10.nrl 1078 0, l78]
  refine ⟨by omega, by omega, fun s13 e13 => ?_⟩
  have h13 : sq [(1078, 0)] s10 s13 := by rw [e13]; exact (sq.rf _ s10).pwa 1078 0 _ _ (by decide)
  have k13 : frK f σ s13 := by rw [e13]; exact frK_up k10 (by decide) (Int.le_refl _)
  have r13 : ra s13 1078 0 f = 0 := by rw [e13]; exact wa_at _ _ _ _
  have g13 := g10.tr (h13.mo (l' := [(1074, 0), (1075, 0), (1076, 0), (1078, 0), (1079, 0), (1080, 0)]) (by decide))
  clear e13
  rw [g13.nrl 1079 0, l79]
  refine ⟨by omega, by omega, fun s16 e16 => ?_⟩
  have h16 : sq [(1079, 0)] s13 s16 := by rw [e16]; exact (sq.rf _ s13).pwa 1079 0 _ _ (by decide)
  have k16 : frK f σ s16 := by rw [e16]; exact frK_up k13 (by decide) (Int.le_refl _)
  have g16 := g13.tr (h16.mo (l' := [(1074, 0), (1075, 0), (1076, 0), (1078, 0), (1079, 0), (1080, 0)]) (by decide))
  clear e16
  rw [g16.nrl 1080 0, l80]
  refine ⟨by omega, by omega, fun s19 e19 => ?_⟩
  have h19 : sq [(1080, 0)] s16 s19 := by rw [e19]; exact (sq.rf _ s16).pwa 1080 0 _ _ (by decide)
  have k19 : frK f σ s19 := by rw [e19]; exact frK_up k16 (by decide) (Int.le_refl _)
  have g19 := g16.tr (h19.mo (l' := [(1074, 0), (1075, 0), (1076, 0), (1078, 0), (1079, 0), (1080, 0)]) (by decide))
  clear e19
  have B19 : mB s19 P s path := hB.sq g19 (by decide)
  have T19 : mT s19 (hG s) (hN s) β := hH.sq g19 (by decide)
  rw [if_pos (by omega), g19.nrl 1076 0, g19.nrl 1071 0, l76, l71, g19.nra 1071 0 _ (by decide), hx]
  refine ⟨by omega, by omega, by omega, by omega, t_cands (by omega) T19 B19.2.1 hrep hgs.2.2.1 x0 x1 hxl hN1 (by rw [g19.nrs 1034 0 (by decide)]; exact hp1) hz1 sc0 sc1 (fun b s25 T25 q25 K25 p25 hb => ?_)⟩
  have B25 : mB s25 P s path := B19.sq q25 (by decide)
  rw [B19.2.2.1.1, B19.2.2.1.2.1] at hb
  have hb2 : bse b (fun k => k ∈ canL P s x sc) := ⟨hb.1, fun k k0 k1 => (hb.2 k k0 k1).trans canL_mem.symm⟩
  rw [mln_at B25.1 1076 21 (by decide)]
  refine ⟨by omega, fun s27 e27 => ?_⟩
  have h27 : sq [(1076, 0), (1077, 0)] s25 s27 := by rw [e27]; exact (sq.rf _ s25).pwa 1076 0 _ _ (by decide)
  have k27 : frK f s25 s27 := by rw [e27]; exact frK_up (frK.rf _ _) (by decide) (Int.le_refl _)
  have r27 : ra s27 1076 0 f = b := by rw [e27]; exact wa_at _ _ _ _
  clear e27
  have B27 : mB s27 P s path := B25.sq h27 (by decide)
  rw [mln_at B27.1 1077 21 (by decide), mln_at B27.1 1076 21 (by decide), r27]
  obtain ⟨hbr, hbn⟩ := bits_len (p := fun k => dcd (canP P.1 P.2.1 P.2.2.1 (hG s) (hN s) (hE s) x sc k)) hB.2.1.1 hb2
  refine ⟨by omega, by omega, by omega, t_bits hbr.1 hbr.2 ?_⟩
  rw [mln_at B27.1 1077 21 (by decide), hbn]
  refine ⟨by omega, fun s34 e34 => ?_⟩
  have h34 : sq [(1077, 0)] s27 s34 := by rw [e34]; exact (sq.rf _ s27).pwa 1077 0 _ _ (by decide)
  have k34 : frK f s25 s34 := by rw [e34]; exact frK_up k27 (by decide) (Int.le_refl _)
  have r34 : ra s34 1077 0 f = ((canL P s x sc).length : Nat) := by rw [e34]; exact wa_at _ _ _ _
  clear e34
  have B34 : mB s34 P s path := B27.sq h34 (by decide)
  have g34 : sq [(1076, 0), (1077, 0)] s25 s34 := h27.tr (h34.mo (by decide))
  refine t_newRound (C := canL P s x sc) (by omega) B34.1 B34.2.1 f0 f1 (fun k hk => ⟨(canL_mem.mp hk).1, (canL_mem.mp hk).2.1⟩) (by rw [h34.nra 1076 0 _ (by decide), r27]; exact hb2) (fun s36 q36 k36 hbs r80 r89 => ?_)
  have o19 : ∀ F, F ∈ fr1 → gvF.contains (F, 0) = false := by decide
  refine hq s36 (((g19.mo (by decide)).tr (q25.mo (by decide))).tr ((g34.mo (by decide)).tr (q36.mo (by decide)))) ((k19.tr (q25.frK (by decide))).tr (k34.tr k36)) (((kpp.of g19 (by decide)).tr K25 (Int.le_refl _)).tr ((kpp.of g34 (by decide)).tr (kpp.of q36 (by decide)) (Int.le_refl _)) (Int.le_refl _)) ((T25.sq g34 (by decide)).sq q36 (by decide)) ?_ ⟨?_, ?_, ?_, ?_, r80, r89⟩ ?_ hbs
  · rw [q36.nrs 1034 0 (by decide), g34.nrs 1034 0 (by decide), p25, g19.nrs 1034 0 (by decide)]
  · rw [q36.nra 1074 0 _ (by decide), g34.nra 1074 0 _ (by decide), q25.nra 1074 0 _ (by decide), h19.nra 1074 0 _ (by decide), h16.nra 1074 0 _ (by decide), h13.nra 1074 0 _ (by decide), h10.nra 1074 0 _ (by decide), h7.nra 1074 0 _ (by decide), r3]
  · rw [q36.nra 1075 0 _ (by decide), g34.nra 1075 0 _ (by decide), q25.nra 1075 0 _ (by decide), h19.nra 1075 0 _ (by decide), h16.nra 1075 0 _ (by decide), h13.nra 1075 0 _ (by decide), h10.nra 1075 0 _ (by decide), r7]
  · rw [q36.nra 1077 0 _ (by decide), r34]
  · rw [q36.nra 1078 0 _ (by decide), g34.nra 1078 0 _ (by decide), q25.nra 1078 0 _ (by decide), h19.nra 1078 0 _ (by decide), h16.nra 1078 0 _ (by decide), r13]
  · rw [q36.nra 1076 0 _ (by decide), h34.nra 1076 0 _ (by decide), r27]
    exact hb2
end ZUa
