/-! The reference's nodes, as they lie in its rows. -/
def mlT : List (Nat × Int) := [(1000, 800), (1004, 12), (1005, 12), (1008, 8), (1009, 24), (1010, 24), (1011, 1440), (1012, 120), (1017, 8), (1018, 24), (1019, 24), (1020, 1440), (1021, 120), (1022, 6), (1026, 576), (1027, 26), (1028, 40000), (1029, 40000), (1030, 40000), (1031, 40000), (1032, 20000), (1036, 26), (1037, 2000), (1039, 4000), (1040, 4000), (1041, 101), (1042, 101), (1046, 48), (1047, 4), (1048, 12), (1052, 8420), (1053, 8420), (1054, 8420), (1055, 8420), (1056, 8420), (1057, 8420), (1058, 33680), (1059, 8420), (1060, 8420), (1061, 8420), (1062, 820000), (1066, 40), (1067, 40), (1068, 4000), (1069, 40), (1071, 21), (1072, 21), (1073, 21), (1074, 21), (1075, 21), (1076, 21), (1077, 21), (1078, 21), (1079, 21), (1080, 21), (1081, 21), (1082, 21), (1083, 84), (1084, 21), (1085, 21), (1086, 21), (1087, 21), (1088, 84), (1089, 21), (1090, 21), (1091, 21), (1092, 84), (1093, 21), (1094, 21), (1095, 20000), (1096, 20000), (1109, 220), (1110, 900), (1112, 9), (1113, 200), (1114, 200), (1115, 200), (1116, 200), (1117, 200), (1118, 200), (1119, 200), (1120, 200), (1121, 200), (1122, 200), (1123, 20000), (1124, 200), (1125, 100), (1130, 900), (1131, 900), (1132, 2000), (1134, 220), (1135, 4), (1136, 4), (1137, 4), (1138, 16), (1139, 4), (1140, 4), (1141, 4), (1142, 4), (1143, 4)]
def mln (σ : jS) : Prop := ∀ p, p ∈ mlT → rl σ p.1 0 = p.2
theorem mln_at {σ : jS} (h : mln σ) (F : Nat) (v : Int) (hm : (mlT.contains (F, v)) = true) : rl σ F 0 = v := h (F, v) (List.contains_iff_mem.mp hm)
/-- lengths, numbers of objects and room are as they were -/
def sl (σ σ' : jS) : Prop := (∀ F o, rl σ' F o = rl σ F o) ∧ (∀ c, rk σ' c = rk σ c) ∧ rc σ' = rc σ ∧ rz σ' = rz σ
/-- but for some rows all is as it was -/
def sf (l : List (Nat × Int)) (σ σ' : jS) : Prop := ∀ F o, ¬ (F, o) ∈ l → rs σ' F o = rs σ F o ∧ ∀ i, ra σ' F o i = ra σ F o i
def sq (l : List (Nat × Int)) (σ σ' : jS) : Prop := sf l σ σ' ∧ sl σ σ'
theorem sl.rf (σ : jS) : sl σ σ := ⟨fun _ _ => rfl, fun _ => rfl, rfl, rfl⟩
theorem sl.tr {σ σ1 σ2 : jS} (h : sl σ σ1) (h' : sl σ1 σ2) : sl σ σ2 := ⟨fun F o => (h'.1 F o).trans (h.1 F o), fun c => (h'.2.1 c).trans (h.2.1 c), h'.2.2.1.trans h.2.2.1, h'.2.2.2.trans h.2.2.2⟩
theorem sf.rf (l : List (Nat × Int)) (σ : jS) : sf l σ σ := fun _ _ _ => ⟨rfl, fun _ => rfl⟩
theorem sf.tr {l : List (Nat × Int)} {σ σ1 σ2 : jS} (h : sf l σ σ1) (h' : sf l σ1 σ2) : sf l σ σ2 := fun F o q => ⟨(h' F o q).1.trans (h F o q).1, fun i => ((h' F o q).2 i).trans ((h F o q).2 i)⟩
theorem sq.rf (l : List (Nat × Int)) (σ : jS) : sq l σ σ := ⟨sf.rf l σ, sl.rf σ⟩
theorem sq.tr {l : List (Nat × Int)} {σ σ1 σ2 : jS} (h : sq l σ σ1) (h' : sq l σ1 σ2) : sq l σ σ2 := ⟨h.1.tr h'.1, h.2.tr h'.2⟩
theorem sq.mo {l l' : List (Nat × Int)} {σ σ1 : jS} (h : sq l σ σ1) (hl : (l.all (fun p => l'.contains p)) = true) : sq l' σ σ1 := ⟨fun F o q => h.1 F o (fun m => q (List.contains_iff_mem.mp (List.all_eq_true.mp hl _ m))), h.2⟩
theorem sq.pws {l : List (Nat × Int)} {σ σ1 : jS} (h : sq l σ σ1) (F : Nat) (o v : Int) (hm : (l.contains (F, o)) = true) : sq l σ (ws σ1 F o v) :=
  h.tr ⟨fun F' o' q => ⟨by rw [rs_ws, if_neg (fun e => q (by rw [e.1, e.2]; exact List.contains_iff_mem.mp hm))], fun _ => rfl⟩, fun _ _ => rfl, fun _ => rfl, rfl, rfl⟩
theorem sq.pwA {l : List (Nat × Int)} {σ σ1 : jS} (h : sq l σ σ1) (F : Nat) (o : Int) (f : Int → Int) (hm : (l.contains (F, o)) = true) : sq l σ (wA σ1 F o f) :=
  h.tr ⟨fun F' o' q => ⟨rfl, fun i => by rw [raf_wA, if_neg (fun e => q (by rw [e.1, e.2]; exact List.contains_iff_mem.mp hm))]⟩, fun _ _ => rfl, fun _ => rfl, rfl, rfl⟩
theorem sq.pwa {l : List (Nat × Int)} {σ σ1 : jS} (h : sq l σ σ1) (F : Nat) (o i v : Int) (hm : (l.contains (F, o)) = true) : sq l σ (wa σ1 F o i v) := h.pwA F o _ hm
theorem sq.nrs {l : List (Nat × Int)} {σ σ1 : jS} (h : sq l σ σ1) (F : Nat) (o : Int) (hm : (l.contains (F, o)) = false) : rs σ1 F o = rs σ F o := (h.1 F o (fun m => by rw [List.contains_iff_mem.mpr m] at hm; cases hm)).1
theorem sq.nra {l : List (Nat × Int)} {σ σ1 : jS} (h : sq l σ σ1) (F : Nat) (o i : Int) (hm : (l.contains (F, o)) = false) : ra σ1 F o i = ra σ F o i := (h.1 F o (fun m => by rw [List.contains_iff_mem.mpr m] at hm; cases hm)).2 i
theorem sq.nraf {l : List (Nat × Int)} {σ σ1 : jS} (h : sq l σ σ1) (F : Nat) (o : Int) (hm : (l.contains (F, o)) = false) : ra σ1 F o = ra σ F o := funext fun i => h.nra F o i hm
theorem sq.nrl {l : List (Nat × Int)} {σ σ1 : jS} (h : sq l σ σ1) (F : Nat) (o : Int) : rl σ1 F o = rl σ F o := h.2.1 F o
theorem mln.sq {l : List (Nat × Int)} {σ σ1 : jS} (m : mln σ) (h : sq l σ σ1) : mln σ1 := fun p hp => (h.nrl _ _).trans (m p hp)
/-- the trail, the latest first -/
def trl (f : Int → Int) : List (Int × Int) → Prop
  | [] => True
  | (u, _) :: β => f (β.length : Nat) = u ∧ trl f β
def zu (g : zH) (N : Int) : Nat := cnt (fun n => decide (gh g n = -1)) (zrg N)
def mT (σ : jS) (g : zH) (N : Int) (β : List (Int × Int)) : Prop :=
  mln σ ∧ zok g N ∧ bok g N β ∧ rs σ 1033 0 = N ∧ 0 ≤ N ∧ N ≤ 40000 ∧ zu g N ≤ 20000 ∧ (∀ n, 0 ≤ n → n < N → ra σ 1028 0 n = gh g n) ∧
  (0 ≤ rs σ 1034 0 ∧ rs σ 1034 0 ≤ 40000) ∧ (∀ n, 0 ≤ n → n < N → ∀ k : Nat, k < pN (gh g n) → 0 ≤ ra σ 1029 0 n ∧ ra σ 1029 0 n + k < rs σ 1034 0 ∧ ra σ 1031 0 (ra σ 1029 0 n + k) = gp g n k) ∧
  (∀ n, 0 ≤ n → n < N → gh g n = -1 → ra σ 1030 0 n = bl β n) ∧ rs σ 1035 0 = (β.length : Nat) ∧ trl (ra σ 1032 0) β
def mTf : List (Nat × Int) := [(1028, 0), (1029, 0), (1030, 0), (1031, 0), (1032, 0), (1033, 0), (1034, 0), (1035, 0)]
/-- what doesn't touch the nodes -/
theorem mT.sq {σ σ1 : jS} {g : zH} {N : Int} {β : List (Int × Int)} {l : List (Nat × Int)} (h : mT σ g N β) (e : sq l σ σ1) (hl : (mTf.all (fun p => !l.contains p)) = true) : mT σ1 g N β := by
  have hm : ∀ p, p ∈ mTf → l.contains p = false := fun p hp => by
    have := List.all_eq_true.mp hl p hp
    simpa using this
  obtain ⟨h1, h2, h3, h4, h5, h6, h7, h8, h9, h10, h11, h12, h13⟩ := h
  have m28 := e.nraf 1028 0 (hm _ (by decide))
  have m29 := e.nraf 1029 0 (hm _ (by decide))
  have m30 := e.nraf 1030 0 (hm _ (by decide))
  have m31 := e.nraf 1031 0 (hm _ (by decide))
  have m32 := e.nraf 1032 0 (hm _ (by decide))
  have m33 := e.nrs 1033 0 (hm _ (by decide))
  have m34 := e.nrs 1034 0 (hm _ (by decide))
  have m35 := e.nrs 1035 0 (hm _ (by decide))
  unfold mT
  rw [m28, m29, m30, m31, m32, m33, m34, m35]
  exact ⟨h1.sq e, h2, h3, h4, h5, h6, h7, h8, h9, h10, h11, h12, h13⟩
section ZM
variable {n : Nat} {σ : jS} {g : zH} {N : Int} {β : List (Int × Int)} {x u t : Int}
theorem bl_len (hb : bok g N β) : β.length ≤ zu g N := by
  have : β.length ≤ cnt (fun n => decide (¬ bl β n = -1)) (zrg N) := by
    induction β with
    | nil => exact Nat.zero_le _
    | cons a β ih =>
      obtain ⟨u, t⟩ := a
      obtain ⟨⟨h1, h2, h3, h4, h5, h6⟩, hb⟩ := hb
      refine Nat.lt_of_le_of_lt (ih hb) (cnt_lt (fun m _ hm => ?_) (mem_zrg h1 h2) (decide_eq_true ?_) (fun q => of_decide_eq_true q h6))
      · have hm := of_decide_eq_true hm
        refine decide_eq_true ?_
        by_cases e : m = u
        · rw [e] at hm; exact absurd h6 hm
        · rw [bl_cons_ne e]; exact hm
      · rw [bl_cons_eq]; omega
  refine Nat.le_trans this (cnt_le (fun m _ hm => decide_eq_true (bok_at hb (of_decide_eq_true hm)).2.2.1))
theorem t_partsOf {Q : Int → jS → Prop} {t : Int} (h0 : -1 ≤ t) (hq : Q (pN t : Nat) σ) : TrI n i_Model_partsOf [ji t] σ Q := by
  refine wp_Model_partsOf ?_
  unfold pN at hq
  by_cases q : t < 0
  · rw [if_pos q] at hq
    rw [if_neg (by omega)]
    exact hq
  · rw [if_neg q] at hq
    have : ((t % 4).toNat : Int) = t % 4 := by omega
    rw [this] at hq
    rw [if_pos (by omega)]
    exact ⟨by omega, hq⟩
theorem t_seen {Q : Int → jS → Prop} (h : mT σ g N β) (ha : acy g N β) (x0 : 0 ≤ x) (x1 : x < N) (hq : Q (sv g N β x) σ) : TrI n i_Model_seen [jo 1 0, ji x] σ Q := by
  obtain ⟨hl, hz, hb, h4, h5, h6, h7, h8, h9, h10, h11, h12, h13⟩ := h
  have l28 := mln_at hl 1028 40000 (by decide)
  have l30 := mln_at hl 1030 40000 (by decide)
  refine wp_Model_seen ?_
  revert hq
  refine zind hz hb ha (P := fun x => Q (sv g N β x) σ → J n c_Model_seen (some .int) 2 [some (jo 1 0), none, some (ji x)] [] σ (qI Q)) (fun y h0 h1 hu hf => ?_) (fun y h0 h1 hu hf b0 b1 ih => ?_) (fun y h0 h1 hu ih => ?_) x x0 x1
  · intro hq
    rw [sv_id hz hb ha h0 h1 (fun _ => hf)] at hq
    refine wp_Model_seen_2 ⟨by omega, by omega, h0, by omega, ?_⟩
    rw [h8 y h0 h1, if_neg (fun q => q hu)]
    refine ⟨by omega, by omega, ?_⟩
    rw [h11 y h0 h1 hu, if_pos hf]
    exact hq
  · intro hq
    rw [sv_bd hz hb ha hf] at hq
    refine wp_Model_seen_2 ⟨by omega, by omega, h0, by omega, ?_⟩
    rw [h8 y h0 h1, if_neg (fun q => q hu)]
    refine ⟨by omega, by omega, ?_⟩
    rw [h11 y h0 h1 hu, if_neg hf]
    exact ih hq
  · intro hq
    rw [sv_id hz hb ha h0 h1 (fun q => absurd q hu)] at hq
    refine wp_Model_seen_2 ⟨by omega, by omega, h0, by omega, ?_⟩
    rw [h8 y h0 h1, if_pos hu]
    exact hq
/-- t is put for u -/
theorem t_tie {Q : jS → Prop} (h : mT σ g N β) (u0 : 0 ≤ u) (u1 : u < N) (hu : gh g u = -1) (hf : bl β u = -1) (t0 : 0 ≤ t) (t1 : t < N) (hq : ∀ σ', mT σ' g N ((u, t) :: β) → sq [(1030, 0), (1032, 0), (1035, 0)] σ σ' → Q σ') : TrV n i_Model_tie [jo 1 0, ji u, ji t] σ Q := by
  obtain ⟨hl, hz, hb, h4, h5, h6, h7, h8, h9, h10, h11, h12, h13⟩ := h
  have l30 := mln_at hl 1030 40000 (by decide)
  have l32 := mln_at hl 1032 20000 (by decide)
  have hb2 : bok g N ((u, t) :: β) := bind_bok hb u0 u1 hu hf t0 t1
  have hlen := bl_len hb2
  rw [List.length_cons] at hlen
  have hin : i32 ((β.length : Int) + 1) := ⟨by omega, by omega⟩
  refine wp_Model_tie ⟨by omega, by omega, u0, by omega, fun σ1 e1 => ⟨?_, ?_, ?_, fun σ2 e2 => ⟨?_, fun σ3 e3 => hq _ ?_ ?_⟩⟩⟩
  · rw [e1]; show 0 ≤ rl σ 1032 0; omega
  · rw [e1]; show 0 ≤ rs σ 1035 0; omega
  · rw [e1]; show rs σ 1035 0 < rl σ 1032 0; omega
  · rw [e2, e1]; show i32 (rs σ 1035 0 + 1); rw [h12]; exact hin
  · subst e1 e2 e3
    refine ⟨fun p hp => hl p hp, hz, hb2, h4, h5, h6, h7, h8, h9, h10, fun y y0 y1 hy => ?_, ?_, ?_, ?_⟩
    · show upI (ra σ 1030 0) u t y = _
      unfold upI bl
      by_cases q : y = u
      · rw [if_pos q, if_pos q]
      · rw [if_neg q, if_neg q]; exact h11 y y0 y1 hy
    · rw [rs_ws, if_pos ⟨rfl, rfl⟩]
      show rs σ 1035 0 + 1 = _
      rw [h12, List.length_cons]; omega
    · show upI (ra σ 1032 0) (rs σ 1035 0) u _ = u
      unfold upI
      rw [h12, if_pos rfl]
    · show trl (upI (ra σ 1032 0) (rs σ 1035 0) u) β
      rw [h12]
      have : ∀ (γ : List (Int × Int)) (m : Nat), γ.length ≤ m → trl (ra σ 1032 0) γ → trl (upI (ra σ 1032 0) m u) γ := by
        intro γ
        induction γ with
        | nil => intro _ _ _; trivial
        | cons a γ ih =>
          obtain ⟨v, s⟩ := a
          intro m hm ht
          rw [List.length_cons] at hm
          refine ⟨?_, ih m (by omega) ht.2⟩
          unfold upI
          rw [if_neg (by omega)]
          exact ht.1
      exact this β _ (Nat.le_refl _) h13
  · subst e1 e2 e3
    exact (((sq.rf _ σ).pwa 1030 0 u t (by decide)).pwa 1032 0 _ u (by decide)).pws 1035 0 _ (by decide)
end ZM
