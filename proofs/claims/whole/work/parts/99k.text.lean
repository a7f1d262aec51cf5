/-! A text is read: the class. -/
/-- the text so far, in one of the two -/
def cNx (σ : jS) (tx : Int) (X : zX) : Prop := rs σ 10000 tx = ((X.1.length : Nat) : Int) ∧ rs σ 10001 tx = ((X.2.2.length : Nat) : Int) ∧ (∀ k : Nat, k < X.1.length → ra σ 10002 tx ((k : Nat) : Int) = X.1.getD k (-1) ∧ ra σ 10003 tx ((k : Nat) : Int) = X.2.1.getD k 0 ∧ bse (ra σ 10004 tx ((k : Nat) : Int)) (fun g => 0 ≤ g ∧ g < ((X.2.2.length : Nat) : Int) ∧ (txG X g).1 = ((k : Nat) : Int))) ∧ ∀ g : Nat, g < X.2.2.length → ra σ 10005 tx ((g : Nat) : Int) = (X.2.2.getD g (0, [])).1 ∧ ra σ 10006 tx ((g : Nat) : Int) = (((X.2.2.getD g (0, [])).2.length : Nat) : Int) - 1 ∧ ∀ i : Nat, i < (X.2.2.getD g (0, [])).2.length → fT σ (2 + 120 * tx + (5 * ((g : Nat) : Int) + ((i : Nat) : Int))) ((X.2.2.getD g (0, [])).2.getD i [])
section ZUx
variable {n : Nat} {σ0 σ σ1 : jS} {D : List Int} {a : Nat} {X : zX} {st : List Int} {tx : Int}
theorem c_hasSc {Q : Int → jS → Prop} {S k : Int} (htx : tx = 0 ∨ tx = 1) (hS : rs σ 10000 tx = S) (hS8 : S ≤ 8) (hq : Q (if 0 ≤ k ∧ k < S then 1 else 0) σ) : TrI n i_Text_hasScope [jo 10 tx, ji k] σ Q := by
  refine wp_Text_hasScope ?_
  by_cases q : k < 0
  · rw [if_neg (by omega)] at hq
    rw [if_pos q]; exact hq
  · rw [if_neg q, hS]
    refine ⟨by omega, ?_⟩
    by_cases q2 : S ≤ k
    · rw [if_neg (by omega)] at hq
      rw [if_pos q2]; exact hq
    · rw [if_pos (by omega)] at hq
      rw [if_neg q2, if_neg (by omega)]; exact hq
theorem c_open {Q : Int → jS → Prop} (hn : 2 ≤ n) (htx : tx = 0 ∨ tx = 1) (hm : cln σ) (hN : cNx σ tx X) (hX : txI X) (hs : stkI X st) (h8 : ¬ X.1.length = 8) (h5 : st.length ≤ 5)
    (hq : ∀ σ', sq [(10000, tx), (10002, tx), (10003, tx), (10004, tx)] σ σ' → cNx σ' tx (X.1 ++ [st.headD (-1)], X.2.1 ++ [((st.length : Nat) : Int)], X.2.2) → Q ((X.1.length : Nat) : Int) σ') : TrI n i_Text_open [jo 10 tx, ji (st.headD (-1))] σ Q := by
  obtain ⟨t1, t2, t3, t4⟩ := hN
  obtain ⟨x1, x2, x3, x4, x5⟩ := hX
  have l2 : rl σ 10002 tx = 8 := by rcases htx with w | w <;> rw [w]; exact cln_at hm 10002 0 8 (by decide); exact cln_at hm 10002 1 8 (by decide)
  have l3 : rl σ 10003 tx = 8 := by rcases htx with w | w <;> rw [w]; exact cln_at hm 10003 0 8 (by decide); exact cln_at hm 10003 1 8 (by decide)
  have l4 : rl σ 10004 tx = 8 := by rcases htx with w | w <;> rw [w]; exact cln_at hm 10004 0 8 (by decide); exact cln_at hm 10004 1 8 (by decide)
  -- how it ends
  have fin : ∀ (s3 s8 s10 : jS) (v : Int), sq [(10002, tx)] σ s3 → (∀ j : Int, ra s3 10002 tx j = if j = ((X.1.length : Nat) : Int) then st.headD (-1) else ra σ 10002 tx j) → s8 = s3 → v = ((st.length : Nat) : Int) → s10 = wa s8 10003 tx ((X.1.length : Nat) : Int) v → 0 ≤ rl s10 10004 tx ∧ 0 ≤ ((X.1.length : Nat) : Int) ∧ ((X.1.length : Nat) : Int) < rl s10 10004 tx ∧ (∀ zs14, zs14 = wa s10 10004 tx ((X.1.length : Nat) : Int) 0 → i32 ((rs zs14 10000 tx) + 1) ∧ (∀ zs18, zs18 = ws zs14 10000 tx ((rs zs14 10000 tx) + 1) → Q ((X.1.length : Nat) : Int) zs18)) := by
    intro s3 s8 s10 v f3 r3 e8 hv e10
    rw [e8, hv] at e10
    have f10 : sq [(10003, tx)] s3 s10 := by rw [e10]; exact (sq.rf _ s3).pwa 10003 tx _ _ (List.contains_iff_mem.mpr List.mem_cons_self)
    have r10 : ∀ j : Int, ra s10 10003 tx j = if j = ((X.1.length : Nat) : Int) then ((st.length : Nat) : Int) else ra s3 10003 tx j := fun j => by
      rw [e10]
      unfold wa
      rw [raf_wA, if_pos ⟨rfl, rfl⟩]
      rfl
    clear e10
    rw [f10.nrl 10004 tx, f3.nrl 10004 tx, l4]
    refine ⟨by omega, by omega, by omega, fun s14 e14 => ?_⟩
    have f14 : sq [(10004, tx)] s10 s14 := by rw [e14]; exact (sq.rf _ s10).pwa 10004 tx _ _ (List.contains_iff_mem.mpr List.mem_cons_self)
    have r14 : ∀ j : Int, ra s14 10004 tx j = if j = ((X.1.length : Nat) : Int) then 0 else ra s10 10004 tx j := fun j => by
      rw [e14]
      unfold wa
      rw [raf_wA, if_pos ⟨rfl, rfl⟩]
      rfl
    clear e14
    rw [f14.nrs 10000 tx (by simp), f10.nrs 10000 tx (by simp), f3.nrs 10000 tx (by simp), t1]
    refine ⟨⟨by omega, by omega⟩, fun s18 e18 => ?_⟩
    have f18 : sq [(10000, tx)] s14 s18 := by rw [e18]; exact (sq.rf _ s14).pws 10000 tx _ (List.contains_iff_mem.mpr List.mem_cons_self)
    have r18 : rs s18 10000 tx = ((X.1.length : Nat) : Int) + 1 := by rw [e18, rs_ws, if_pos ⟨rfl, rfl⟩]
    clear e18
    have F : sq [(10000, tx), (10002, tx), (10003, tx), (10004, tx)] σ s18 := (((f3.mo (by simp)).tr (f10.mo (by simp))).tr (f14.mo (by simp))).tr (f18.mo (by simp))
    refine hq s18 F ⟨by rw [r18, gd_len]; omega, by rw [F.nrs 10001 tx (by simp)]; exact t2, fun k hk => ?_, fun g hg => ?_⟩
    · have hk' : k < X.1.length + 1 := by rw [← gd_len (x := st.headD (-1))]; exact hk
      show ra s18 10002 tx ((k : Nat) : Int) = (X.1 ++ [st.headD (-1)]).getD k (-1) ∧ ra s18 10003 tx ((k : Nat) : Int) = (X.2.1 ++ [((st.length : Nat) : Int)]).getD k 0 ∧ bse (ra s18 10004 tx ((k : Nat) : Int)) (fun g => 0 ≤ g ∧ g < ((X.2.2.length : Nat) : Int) ∧ (txG X g).1 = ((k : Nat) : Int))
      rw [f18.nra 10002 tx _ (by simp), f14.nra 10002 tx _ (by simp), f10.nra 10002 tx _ (by simp), r3, f18.nra 10003 tx _ (by simp), f14.nra 10003 tx _ (by simp), r10, f18.nra 10004 tx _ (by simp), r14]
      by_cases q : k < X.1.length
      · obtain ⟨b1, b2, b3⟩ := t3 k q
        rw [if_neg (by omega), if_neg (by omega), if_neg (by omega), gd_old q, gd_old (by omega), f3.nra 10003 tx _ (by simp), f10.nra 10004 tx _ (by simp), f3.nra 10004 tx _ (by simp)]
        exact ⟨b1, b2, b3⟩
      · have ek : k = X.1.length := by omega
        subst ek
        rw [if_pos rfl, if_pos rfl, if_pos rfl, gd_new]
        refine ⟨rfl, ?_, ⟨by decide, by decide⟩, fun j j0 j1 => ?_⟩
        · rw [← x1]; exact gd_new.symm
        · rw [tb_0]
          refine ⟨fun w => (by cases w), fun ⟨w1, w2, w3⟩ => ?_⟩
          have hlt : j.toNat < X.2.2.length := by omega
          have := (x5 _ (List.getElem_mem hlt)).1.2
          have eG : txG X j = X.2.2[j.toNat] := by
            unfold txG
            rw [List.getD_eq_getElem?_getD, List.getElem?_eq_getElem hlt]
            rfl
          rw [← eG, w3] at this
          omega
    · obtain ⟨b1, b2, b3⟩ := t4 g hg
      exact ⟨by rw [F.nra 10005 tx _ (by simp)]; exact b1, by rw [F.nra 10006 tx _ (by simp)]; exact b2, fun i hi => (b3 i hi).sq F (by simp)⟩
  refine wp_Text_open ⟨by omega, ?_⟩
  rw [t1, if_neg (by omega), l2]
  refine ⟨by omega, by omega, by omega, fun s3 e3 => ?_⟩
  have f3 : sq [(10002, tx)] σ s3 := by rw [e3]; exact (sq.rf _ σ).pwa 10002 tx _ _ (List.contains_iff_mem.mpr List.mem_cons_self)
  have r3 : ∀ j : Int, ra s3 10002 tx j = if j = ((X.1.length : Nat) : Int) then st.headD (-1) else ra σ 10002 tx j := fun j => by
    rw [e3]
    unfold wa
    rw [raf_wA, if_pos ⟨rfl, rfl⟩]
    rfl
  clear e3
  refine ⟨by rw [f3.nrl 10003 tx, l3]; omega, by omega, c_hasSc (S := ((X.1.length : Nat) : Int)) htx (by rw [f3.nrs 10000 tx (by simp)]; exact t1) (by omega) ?_⟩
  cases st with
  | nil =>
    have e0 : (if 0 ≤ ([] : List Int).headD (-1) ∧ ([] : List Int).headD (-1) < ((X.1.length : Nat) : Int) then (1 : Int) else 0) = 0 := if_neg (by show ¬ ((0 : Int) ≤ -1 ∧ _); omega)
    rw [e0, if_pos rfl, f3.nrl 10003 tx, l3]
    exact ⟨by omega, by omega, fun s10 e10 => fin s3 s3 s10 0 f3 r3 rfl rfl e10⟩
  | cons s st' =>
    obtain ⟨⟨a1, a2, a3, a4⟩, a5⟩ := hs
    rw [List.length_cons] at h5
    have e1 : (if 0 ≤ (s :: st').headD (-1) ∧ (s :: st').headD (-1) < ((X.1.length : Nat) : Int) then (1 : Int) else 0) = 1 := if_pos ⟨a1, a2⟩
    have b := (t3 s.toNat (by omega)).2.1
    rw [Int.toNat_of_nonneg a1, a4] at b
    have b3 : ra s3 10003 tx ((s :: st').headD (-1)) = ((st'.length : Nat) : Int) := by
      show ra s3 10003 tx s = _
      rw [f3.nra 10003 tx _ (by simp)]; exact b
    rw [e1, if_neg (by decide), f3.nrl 10003 tx, l3, b3]
    refine ⟨by omega, a1, by show s < 8; omega, ⟨by omega, by omega⟩, by omega, by omega, fun s10 e10 => fin s3 s3 s10 _ f3 r3 rfl (by rw [List.length_cons]; omega) e10⟩
set_option maxRecDepth 8000 in
theorem c_readText {Q : Int → jS → Prop} (hn : 10 ≤ n) (hm : cln σ) (hD : cTp σ D) (htx : tx = 0 ∨ tx = 1) (hP : ∀ j, 0 ≤ j → j < 120 → ra σ 10008 tx j = 2 + 120 * tx + j) (hF : ∀ j, 2 ≤ j → j < 242 → rl σ 0 j = 12)
    (hq1 : (rdTx D).1 = true → ∀ σ', tqq tx σ σ' → cNx σ' tx (rdTx D).2.2 → Q 1 σ')
    (hq0 : (rdTx D).1 = false → ∀ σ', tqq tx σ σ' → rs σ' 8001 0 = (((rdTx D).2.1 : Nat) : Int) → Q 0 σ') : TrI n i_Tape_readText [jo 8 0, jo 10 tx] σ Q := by
  have hD800 := hD.2.1
  have loop : ∀ (k a : Nat) (X : zX) (st : List Int) (s2 : jS) (i : Int), i + ((k : Nat) : Int) = 800 → 0 ≤ i → a ≤ D.length → txI X → stkI X st → st.length ≤ 6 → rdX D k a X st = rdTx D → tqq tx σ s2 → rs s2 8001 0 = ((a : Nat) : Int) → cNx s2 tx X → J n c_Tape_readText (some .boolean) 13 [some (jo 8 0), some (jo 10 tx), some (ji (st.headD (-1))), some (ji i)] [] s2 (qI Q) := by
    intro k
    induction k with
    | zero =>
      intro a X st s2 i hi hi0 ha hX hs h6 hS e2 v1 hN
      have hS2 : (false, a, X) = rdTx D := hS
      refine wp_Tape_readText_13 ?_
      rw [if_pos (by omega)]
      exact hq0 (by rw [← hS2]) s2 e2 (by rw [← hS2]; exact v1)
    | succ k ih =>
      intro a X st s2 i hi hi0 ha hX hs h6 hS e2 v1 hN
      have hm2 := e2.cln hm
      have hD2 := e2.tp hD
      have hX8 := hX.2.1
      have hX24 := hX.2.2.1
      unfold rdX at hS
      refine wp_Tape_readText_13 ?_
      rw [if_neg (by omega)]
      refine ⟨by omega, by omega, c_isNext (D := D) (a := a) (by omega) hm2 hD2 v1 ?_⟩
      by_cases q123 : tpN D a = 123
      · have hlt := tpN_lt (D := D) (a := a) (by rw [q123]; decide)
        rw [if_pos q123] at hS
        have e1 : (if tpN D a = 123 then (1 : Int) else 0) = 1 := if_pos q123
        rw [e1, if_neg (by decide)]
        refine ⟨by omega, wp_Text_mayOpenIn ⟨by omega, ?_⟩⟩
        rw [hN.1]
        by_cases q8 : X.1.length = 8
        · rw [if_pos (by omega), if_neg (fun w => w rfl)]
          rw [if_pos (Or.inl q8)] at hS
          exact hq0 (by rw [← hS]) s2 e2 (by rw [← hS]; exact v1)
        · rw [if_neg (by omega)]
          refine ⟨by omega, c_hasSc htx hN.1 (by omega) ?_⟩
          -- it is opened
          have go : st.length ≤ 5 → TrI (n - 1) i_Text_open [jo 10 tx, ji (st.headD (-1))] s2 (fun zr19 zs18 => i32 ((rs zs18 8001 0) + 1) ∧ (∀ zs21, zs21 = ws zs18 8001 0 ((rs zs18 8001 0) + 1) → i32 (i + 1) ∧ J n c_Tape_readText (some .boolean) 13 [some (jo 8 0), some (jo 10 tx), some (ji zr19), some (ji (i + 1))] [] zs21 (qI Q))) := fun h5 => by
            rw [if_neg (fun w => by rcases w with w | w; exact q8 w; omega)] at hS
            refine c_open (by omega) htx hm2 hN hX hs q8 h5 (fun s18 f18 hN18 => ?_)
            have E18 : tqq tx s2 s18 := f18.tqq (fun p hp => by
              simp at hp
              unfold tFp
              rcases hp with w | w | w | w <;> rw [w] <;> simp)
            rw [f18.nrs 8001 0 (by simp), v1]
            refine ⟨⟨by omega, by omega⟩, fun s21 e21 => ⟨⟨by omega, by omega⟩, ?_⟩⟩
            have f21 : sq [(8001, 0)] s18 s21 := by rw [e21]; exact (sq.rf _ s18).pws 8001 0 _ (by decide)
            have r21 : rs s21 8001 0 = ((a + 1 : Nat) : Int) := by rw [e21, rs_ws, if_pos ⟨rfl, rfl⟩]; omega
            clear e21
            have E21 : tqq tx s18 s21 := f21.tqq (fun p hp => by
              rw [List.mem_singleton] at hp
              rw [hp]; exact Or.inl ⟨Or.inl rfl, rfl⟩)
            obtain ⟨o1, o2⟩ := txI_open hX hs q8 h5
            refine ih (a + 1) _ (((X.1.length : Nat) : Int) :: st) s21 (i + 1) (by omega) (by omega) (by omega) o1 o2 (by rw [List.length_cons]; omega) hS ((e2.tr E18).tr E21) r21 ?_
            have nT : ∀ F, 10000 ≤ F → ([(8001, 0)] : List (Nat × Int)).contains (F, tx) = false := fun F hF => by
              simp
              intro w; omega
            obtain ⟨t1, t2, t3, t4⟩ := hN18
            refine ⟨by rw [f21.nrs 10000 tx (nT _ (by decide))]; exact t1, by rw [f21.nrs 10001 tx (nT _ (by decide))]; exact t2, fun k hk => ?_, fun g hg => ?_⟩
            · rw [f21.nra 10002 tx _ (nT _ (by decide)), f21.nra 10003 tx _ (nT _ (by decide)), f21.nra 10004 tx _ (nT _ (by decide))]
              exact t3 k hk
            · obtain ⟨b1, b2, b3⟩ := t4 g hg
              exact ⟨by rw [f21.nra 10005 tx _ (nT _ (by decide))]; exact b1, by rw [f21.nra 10006 tx _ (nT _ (by decide))]; exact b2, fun i hi => (b3 i hi).sq f21 (by decide)⟩
          cases st with
          | nil =>
            have e0 : (if 0 ≤ ([] : List Int).headD (-1) ∧ ([] : List Int).headD (-1) < ((X.1.length : Nat) : Int) then (1 : Int) else 0) = 0 := if_neg (by show ¬ ((0 : Int) ≤ -1 ∧ _); omega)
            rw [e0, if_pos rfl, if_pos (by decide)]
            exact go (by show 0 ≤ 5; omega)
          | cons s st' =>
            obtain ⟨⟨a1, a2, a3, a4⟩, a5⟩ := hs
            have e1' : (if 0 ≤ (s :: st').headD (-1) ∧ (s :: st').headD (-1) < ((X.1.length : Nat) : Int) then (1 : Int) else 0) = 1 := if_pos ⟨a1, a2⟩
            have l3 : rl s2 10003 tx = 8 := by rcases htx with w | w <;> rw [w]; exact cln_at hm2 10003 0 8 (by decide); exact cln_at hm2 10003 1 8 (by decide)
            have b := (hN.2.2.1 s.toNat (by omega)).2.1
            rw [Int.toNat_of_nonneg a1, a4] at b
            have b3 : ra s2 10003 tx ((s :: st').headD (-1)) = ((st'.length : Nat) : Int) := b
            rw [e1', if_neg (by decide), l3, b3]
            refine ⟨by omega, a1, by show s < 8; omega, ?_⟩
            by_cases q5 : 5 < (s :: st').length
            · rw [List.length_cons] at q5
              rw [if_pos (by omega), if_neg (fun w => w rfl)]
              rw [if_pos (Or.inr (by rw [List.length_cons]; exact q5))] at hS
              exact hq0 (by rw [← hS]) s2 e2 (by rw [← hS]; exact v1)
            · have q5' := q5
              rw [List.length_cons] at q5'
              rw [if_neg (by omega), if_pos (by decide)]
              exact go (by omega)
      · rw [if_neg q123] at hS
        have e0 : (if tpN D a = 123 then (1 : Int) else 0) = 0 := if_neg q123
        rw [e0, if_pos rfl]
        cases st with
        | nil =>
          rw [if_neg (fun w => w rfl)]
          dsimp only at hS
          exact hq0 (by rw [← hS]) s2 e2 (by rw [← hS]; exact v1)
        | cons s st' =>
          dsimp only at hS
          have hs0 := hs
          obtain ⟨⟨a1, a2, a3, a4⟩, a5⟩ := hs
          rw [if_pos (by show ¬ s = -1; omega)]
          refine c_passed (D := D) (a := a) (by omega) hm2 hD2 v1 (by decide) (fun q125 s5 f5 r5 => ?_) (fun q125 => ?_)
          · rw [if_pos q125] at hS
            have hlt := tpN_lt (D := D) (a := a) (by rw [q125]; decide)
            have E5 : tqq tx s2 s5 := f5.tqq (fun p hp => by
              rw [List.mem_singleton] at hp
              rw [hp]; exact Or.inl ⟨Or.inl rfl, rfl⟩)
            have nT : ∀ F, 10000 ≤ F → ([(8001, 0)] : List (Nat × Int)).contains (F, tx) = false := fun F hF => by
              simp
              intro w; omega
            have hN5 : cNx s5 tx X := by
              obtain ⟨t1, t2, t3, t4⟩ := hN
              refine ⟨by rw [f5.nrs 10000 tx (nT _ (by decide))]; exact t1, by rw [f5.nrs 10001 tx (nT _ (by decide))]; exact t2, fun k hk => ?_, fun g hg => ?_⟩
              · rw [f5.nra 10002 tx _ (nT _ (by decide)), f5.nra 10003 tx _ (nT _ (by decide)), f5.nra 10004 tx _ (nT _ (by decide))]
                exact t3 k hk
              · obtain ⟨b1, b2, b3⟩ := t4 g hg
                exact ⟨by rw [f5.nra 10005 tx _ (nT _ (by decide))]; exact b1, by rw [f5.nra 10006 tx _ (nT _ (by decide))]; exact b2, fun i hi => (b3 i hi).sq f5 (by decide)⟩
            have hm5 := E5.cln hm2
            have l2 : rl s5 10002 tx = 8 := by rcases htx with w | w <;> rw [w]; exact cln_at hm5 10002 0 8 (by decide); exact cln_at hm5 10002 1 8 (by decide)
            have b := (hN5.2.2.1 s.toNat (by omega)).1
            rw [Int.toNat_of_nonneg a1, a3] at b
            rw [if_neg (by decide)]
            refine ⟨by omega, wp_Text_aroundOf ⟨by omega, by omega, c_hasSc htx hN5.1 (by omega) ?_⟩⟩
            have e1' : (if 0 ≤ (s :: st').headD (-1) ∧ (s :: st').headD (-1) < ((X.1.length : Nat) : Int) then (1 : Int) else 0) = 1 := if_pos ⟨a1, a2⟩
            have b' : ra s5 10002 tx ((s :: st').headD (-1)) = st'.headD (-1) := b
            rw [e1', if_neg (by decide), l2, b']
            refine ⟨by omega, a1, by show s < 8; omega, ?_⟩
            cases st' with
            | nil =>
              dsimp only at hS
              have h80 : rs s5 8000 0 = ((D.length : Nat) : Int) := ((E5.tp hD2)).1
              rw [if_neg (fun w => w rfl), r5, h80]
              by_cases qe : a + 1 = D.length
              · rw [if_neg (fun w => w (by omega))]
                rw [decide_eq_true qe] at hS
                rw [← hS] at hq1
                exact hq1 rfl s5 (e2.tr E5) hN5
              · rw [if_pos (by omega)]
                rw [decide_eq_false qe] at hS
                exact hq0 (by rw [← hS]) s5 (e2.tr E5) (by rw [← hS]; exact r5)
            | cons s' st2 =>
              dsimp only at hS
              have hs' := a5.1.1
              rw [if_pos (by show ¬ s' = -1; omega)]
              rw [List.length_cons] at h6
              exact ⟨⟨by omega, by omega⟩, ih (a + 1) X (s' :: st2) s5 (i + 1) (by omega) (by omega) (by omega) hX a5 (by omega) hS (e2.tr E5) r5 hN5⟩
          · rw [if_neg q125] at hS
            rw [if_pos rfl]
            refine ⟨by omega, c_readGiven (D := D) (a := a) (g := X.2.2.length) (s := s) (S := ((X.1.length : Nat) : Int)) (by omega) hm2 hD2 ha v1 htx (fun j j0 j1 => ?_) (fun j j0 j1 => by rw [e2.rl]; exact hF j j0 j1) hN.2.1 hX24 hN.1 (by omega) a1 a2 (fun q => ?_) (fun q w s3 e3 w1 => ?_) (fun q w s3 e3 w1 w2 w3 w4 w5 w6 => ?_)⟩
            · have : ¬ tFp tx 10008 tx := by unfold tFp; omega
              rw [(e2.1 10008 tx this).2]
              exact hP j j0 j1
            · rw [if_pos q] at hS
              rw [if_neg (fun w => w rfl)]
              exact hq0 (by rw [← hS]) s2 e2 (by rw [← hS]; exact v1)
            · rw [if_neg q, if_pos w] at hS
              rw [if_neg (fun w => w rfl)]
              exact hq0 (by rw [← hS]) s3 (e2.tr e3) (by rw [← hS]; exact w1)
            · rw [if_neg q, if_neg (by rw [w]; exact fun v => by cases v)] at hS
              have hG := rdG_ok (D := D) (a := a) ha
              obtain ⟨g1, g2, g3⟩ := hG.2 w
              obtain ⟨o1, o2⟩ := txI_given hX hs0 q g2 g3
              rw [if_pos (by decide)]
              refine ⟨⟨by omega, by omega⟩, ih _ _ (s :: st') s3 (i + 1) (by omega) (by omega) hG.1 o1 o2 h6 hS (e2.tr e3) w1 ?_⟩
              obtain ⟨t1, t2, t3, t4⟩ := hN
              refine ⟨by rw [w2.2], by rw [w2.1, gd_len]; omega, fun k hk => ?_, fun g hg => ?_⟩
              · obtain ⟨b1, b2, b3⟩ := t3 k hk
                obtain ⟨c1, c2, c3⟩ := w5 ((k : Nat) : Int)
                refine ⟨by rw [c1]; exact b1, by rw [c2]; exact b2, ?_⟩
                rw [c3]
                have eold : ∀ j : Int, 0 ≤ j → j < ((X.2.2.length : Nat) : Int) → txG (X.1, X.2.1, X.2.2 ++ [(s, (rdG D a).2.2)]) j = txG X j := fun j j0 j1 => gd_old (by omega)
                have enew : txG (X.1, X.2.1, X.2.2 ++ [(s, (rdG D a).2.2)]) ((X.2.2.length : Nat) : Int) = (s, (rdG D a).2.2) := by
                  unfold txG
                  rw [Int.toNat_natCast]
                  exact gd_new
                have hlen : (((X.2.2 ++ [(s, (rdG D a).2.2)]).length : Nat) : Int) = ((X.2.2.length : Nat) : Int) + 1 := by rw [gd_len]; omega
                show bse _ (fun g => 0 ≤ g ∧ g < (((X.2.2 ++ [(s, (rdG D a).2.2)]).length : Nat) : Int) ∧ (txG (X.1, X.2.1, X.2.2 ++ [(s, (rdG D a).2.2)]) g).1 = ((k : Nat) : Int))
                rw [hlen]
                by_cases qs : ((k : Nat) : Int) = s
                · rw [if_pos qs]
                  have b3s := b3
                  rw [qs] at b3s
                  refine ⟨i32_bOr _ _, fun j j0 j1 => ?_⟩
                  show tb (bOr (ra s2 10004 tx s) (bShl 1 ((X.2.2.length : Nat) : Int))) j = true ↔ 0 ≤ j ∧ j < ((X.2.2.length : Nat) : Int) + 1 ∧ (txG (X.1, X.2.1, X.2.2 ++ [(s, (rdG D a).2.2)]) j).1 = ((k : Nat) : Int)
                  have hj : tb (ra s2 10004 tx s) j = true ↔ 0 ≤ j ∧ j < ((X.2.2.length : Nat) : Int) ∧ (txG X j).1 = s := b3s.2 j j0 j1
                  rw [tb_or, tb_one (by omega) (by omega) j0, Bool.or_eq_true, hj, decide_eq_true_iff, qs]
                  constructor
                  · rintro (⟨v1, v2, v3⟩ | v)
                    · exact ⟨v1, by omega, by rw [eold j v1 v2]; exact v3⟩
                    · subst v
                      exact ⟨by omega, by omega, by rw [enew]⟩
                  · rintro ⟨v1, v2, v3⟩
                    by_cases qj : j = ((X.2.2.length : Nat) : Int)
                    · exact Or.inr qj
                    · exact Or.inl ⟨v1, by omega, by rw [← eold j v1 (by omega)]; exact v3⟩
                · rw [if_neg qs]
                  refine ⟨b3.1, fun j j0 j1 => (b3.2 j j0 j1).trans ⟨fun ⟨v1, v2, v3⟩ => ⟨v1, by omega, by rw [eold j v1 v2]; exact v3⟩, fun ⟨v1, v2, v3⟩ => ?_⟩⟩
                  by_cases qj : j = ((X.2.2.length : Nat) : Int)
                  · subst qj
                    rw [enew] at v3
                    exact absurd v3.symm qs
                  · exact ⟨v1, by omega, by rw [← eold j v1 (by omega)]; exact v3⟩
              · have hg' : g < X.2.2.length + 1 := by rw [← gd_len (x := (s, (rdG D a).2.2))]; exact hg
                show ra s3 10005 tx ((g : Nat) : Int) = ((X.2.2 ++ [(s, (rdG D a).2.2)]).getD g (0, [])).1 ∧ ra s3 10006 tx ((g : Nat) : Int) = ((((X.2.2 ++ [(s, (rdG D a).2.2)]).getD g (0, [])).2.length : Nat) : Int) - 1 ∧ ∀ i : Nat, i < ((X.2.2 ++ [(s, (rdG D a).2.2)]).getD g (0, [])).2.length → fT s3 (2 + 120 * tx + (5 * ((g : Nat) : Int) + ((i : Nat) : Int))) (((X.2.2 ++ [(s, (rdG D a).2.2)]).getD g (0, [])).2.getD i [])
                by_cases qg : g < X.2.2.length
                · rw [gd_old qg]
                  obtain ⟨b1, b2, b3⟩ := t4 g qg
                  obtain ⟨c1, c2⟩ := w4 ((g : Nat) : Int) (by omega)
                  have hGm : X.2.2.getD g (0, []) ∈ X.2.2 := by
                    rw [List.getD_eq_getElem?_getD, List.getElem?_eq_getElem qg]
                    exact List.getElem_mem qg
                  have d2 := (hX.2.2.2.2 _ hGm).2.1.2
                  exact ⟨by rw [c1]; exact b1, by rw [c2]; exact b2, fun i hi => w6 _ _ (by omega) (b3 i hi)⟩
                · have eg : g = X.2.2.length := by omega
                  subst eg
                  rw [gd_new]
                  exact w3
  refine wp_Tape_readText ⟨by omega, by omega, wp_Text_clear ⟨by omega, fun s2 e2 s3 e3 => ⟨by omega, fun s6 e6 => ?_⟩⟩⟩
  have f6 : sq [(8001, 0), (10000, tx), (10001, tx)] σ s6 := by rw [e6, e3, e2]; exact (((sq.rf _ σ).pws 10000 tx _ (by simp)).pws 10001 tx _ (by simp)).pws 8001 0 _ (by simp)
  have r1 : rs s6 8001 0 = ((0 : Nat) : Int) := by rw [e6]; rfl
  have r10 : rs s6 10000 tx = 0 := by rw [e6, e3, e2, rs_ws, if_neg (by simp), rs_ws, if_neg (by simp), rs_ws, if_pos ⟨rfl, rfl⟩]
  have r11 : rs s6 10001 tx = 0 := by rw [e6, e3, rs_ws, if_neg (by simp), rs_ws, if_pos ⟨rfl, rfl⟩]
  clear e2 e3 e6
  exact loop 800 0 ([], [], []) [] s6 0 rfl (Int.le_refl _) (Nat.zero_le _) txI_nil trivial (by show 0 ≤ 6; omega) rfl (f6.tqq (fun p hp => by
    simp at hp
    unfold tFp
    rcases hp with w | w | w <;> rw [w] <;> simp)) r1 ⟨r10, r11, fun k hk => absurd hk (by simp), fun g hg => absurd hg (by simp)⟩
end ZUx
