/-! A given one is read: the class. -/
/-- what reading a text may change -/
def tFp (tx : Int) (F : Nat) (o : Int) : Prop := ((F = 8001 ∨ F = 8003) ∧ o = 0) ∨ (10000 ≤ F ∧ F ≤ 10006 ∧ o = tx) ∨ ((F = 0 ∨ F = 1) ∧ 2 + 120 * tx ≤ o ∧ o < 122 + 120 * tx)
def tqq (tx : Int) (σ σ' : jS) : Prop := (∀ F o, ¬ tFp tx F o → rs σ' F o = rs σ F o ∧ ∀ i, ra σ' F o i = ra σ F o i) ∧ sl σ σ'
section ZTz
variable {n : Nat} {σ0 σ σ1 σ2 : jS} {D : List Int} {a : Nat} {r : List Int} {tx o : Int}
theorem tqq.rf (tx : Int) (σ : jS) : tqq tx σ σ := ⟨fun _ _ _ => ⟨rfl, fun _ => rfl⟩, sl.rf σ⟩
theorem tqq.tr (h : tqq tx σ σ1) (h' : tqq tx σ1 σ2) : tqq tx σ σ2 := ⟨fun F o q => ⟨(h'.1 F o q).1.trans (h.1 F o q).1, fun i => ((h'.1 F o q).2 i).trans ((h.1 F o q).2 i)⟩, h.2.tr h'.2⟩
theorem sq.tqq {l : List (Nat × Int)} (e : sq l σ σ1) (hl : ∀ p, p ∈ l → tFp tx p.1 p.2) : tqq tx σ σ1 := ⟨fun F o q => e.1 F o (fun w => q (hl _ w)), e.2⟩
theorem tyF_fp (h : 2 + 120 * tx ≤ o ∧ o < 122 + 120 * tx) : ∀ p, p ∈ tyF o → tFp tx p.1 p.2 := fun p hp => by
  unfold tyF at hp
  unfold tFp
  simp at hp
  rcases hp with w | w | w | w <;> rw [w] <;> simp <;> omega
theorem tqq.rl (h : tqq tx σ σ1) (F : Nat) (q : Int) : Jvm.Pilot.CGivenSearchLaw_law_r1920_7b7b70.rl σ1 F q = Jvm.Pilot.CGivenSearchLaw_law_r1920_7b7b70.rl σ F q := h.2.1 F q
theorem tqq.cln (h : tqq tx σ σ1) (hm : cln σ) : Jvm.Pilot.CGivenSearchLaw_law_r1920_7b7b70.cln σ1 := fun p hp => (h.2.1 _ _).trans (hm p hp)
theorem tqq.tp (h : tqq tx σ σ1) (hD : cTp σ D) : cTp σ1 D := by
  obtain ⟨h1, h2, h3, h4⟩ := hD
  have n0 : ¬ tFp tx 8000 0 := by unfold tFp; omega
  have n2 : ¬ tFp tx 8002 0 := by unfold tFp; omega
  exact ⟨by rw [(h.1 8000 0 n0).1]; exact h1, h2, fun i hi => by rw [(h.1 8002 0 n2).2]; exact h3 i hi, h4⟩
/-- another row stays -/
theorem fT_ty {o' : Int} (h : fT σ o' r) (e : sq (tyF o) σ σ1) (hne : ¬ o' = o) : fT σ1 o' r := by
  have n0 : (tyF o).contains (0, o') = false := by unfold tyF; simp [hne]
  have n1 : (tyF o).contains (1, o') = false := by unfold tyF; simp [hne]
  unfold fT
  rw [e.nrs 1 o' n1, e.nraf 0 o' n0, e.nrl 0 o']
  exact h
set_option maxRecDepth 8000 in
theorem c_readGiven {Q : Int → jS → Prop} {g : Nat} {s S : Int} (hn : 8 ≤ n) (hm : cln σ) (hD : cTp σ D) (ha : a ≤ D.length) (h1 : rs σ 8001 0 = ((a : Nat) : Int)) (htx : tx = 0 ∨ tx = 1) (hP : ∀ j, 0 ≤ j → j < 120 → ra σ 10008 tx j = 2 + 120 * tx + j) (hF : ∀ j, 2 ≤ j → j < 242 → rl σ 0 j = 12) (hg : rs σ 10001 tx = ((g : Nat) : Int)) (g1 : g ≤ 24) (hS : rs σ 10000 tx = S) (hS8 : S ≤ 8) (s0 : 0 ≤ s) (s1 : s < S)
    (hqL : g = 24 → Q 0 σ)
    (hq0 : ¬ g = 24 → (rdG D a).1 = false → ∀ σ', tqq tx σ σ' → rs σ' 8001 0 = (((rdG D a).2.1 : Nat) : Int) → Q 0 σ')
    (hq1 : ¬ g = 24 → (rdG D a).1 = true → ∀ σ', tqq tx σ σ' → rs σ' 8001 0 = (((rdG D a).2.1 : Nat) : Int) → (rs σ' 10001 tx = ((g : Nat) : Int) + 1 ∧ rs σ' 10000 tx = S) → (ra σ' 10005 tx ((g : Nat) : Int) = s ∧ ra σ' 10006 tx ((g : Nat) : Int) = (((rdG D a).2.2.length : Nat) : Int) - 1 ∧ ∀ i : Nat, i < (rdG D a).2.2.length → fT σ' (2 + 120 * tx + (5 * ((g : Nat) : Int) + ((i : Nat) : Int))) ((rdG D a).2.2.getD i [])) → (∀ j : Int, j < ((g : Nat) : Int) → ra σ' 10005 tx j = ra σ 10005 tx j ∧ ra σ' 10006 tx j = ra σ 10006 tx j) → (∀ j : Int, ra σ' 10002 tx j = ra σ 10002 tx j ∧ ra σ' 10003 tx j = ra σ 10003 tx j ∧ ra σ' 10004 tx j = if j = s then bOr (ra σ 10004 tx s) (bShl 1 ((g : Nat) : Int)) else ra σ 10004 tx j) → (∀ q r, q < 2 + 120 * tx + 5 * ((g : Nat) : Int) → fT σ q r → fT σ' q r) → Q 1 σ') : TrI n i_Tape_readGiven [jo 8 0, jo 10 tx, ji s] σ Q := by
  have hD800 := hD.2.1
  refine wp_Tape_readGiven ⟨by omega, ?_⟩
  rw [hg]
  by_cases q24 : g = 24
  · rw [if_pos (by omega)]
    exact hqL q24
  rw [if_neg (by omega)]
  have hg24 : g < 24 := by omega
  -- what stays while types are read
  have st : ∀ {s2 : jS}, tqq tx σ s2 → (∀ F, 10000 ≤ F → F ≤ 10006 → rs s2 F tx = rs σ F tx ∧ ∀ j, ra s2 F tx j = ra σ F tx j) → True := fun _ _ => trivial
  -- the sign ; and the given one is written
  have fin : ∀ (rows : List (List Int)) (b : Nat) (s2 : jS), b ≤ D.length → 1 ≤ rows.length → rows.length ≤ 5 → rdG D a = semi D b rows → tqq tx σ s2 → (∀ F, 10000 ≤ F → F ≤ 10006 → rs s2 F tx = rs σ F tx ∧ ∀ j, ra s2 F tx j = ra σ F tx j) → rs s2 8001 0 = ((b : Nat) : Int) → (∀ i : Nat, i < rows.length → fT s2 (2 + 120 * tx + (5 * ((g : Nat) : Int) + ((i : Nat) : Int))) (rows.getD i [])) → (∀ q r, q < 2 + 120 * tx + 5 * ((g : Nat) : Int) → fT σ q r → fT s2 q r) → TrI (n - 1) i_Tape_passed [jo 8 0, ji 59] s2 (fun zr12 zs11 => (if ¬ zr12 = 0 then TrV (n - 1) i_Text_addGiven [jo 10 tx, ji s, ji (((rows.length : Nat) : Int) - 1)] zs11 (fun zs13 => Q 1 zs13) else Q 0 zs11)) := by
    intro rows b s2 hb hr1 hr5 hG e2 hT v1 vr vo
    unfold semi at hG
    refine c_passed (D := D) (a := b) (by omega) (e2.cln hm) (e2.tp hD) v1 (by decide) (fun q s3 f3 r3 => ?_) (fun q => ?_)
    · rw [if_pos q] at hG
      rw [if_pos (by decide)]
      have e3 : tqq tx s2 s3 := f3.tqq (fun p hp => by
        rw [List.mem_singleton] at hp
        rw [hp]; exact Or.inl ⟨Or.inl rfl, rfl⟩)
      have hm3 := (e2.tr e3).cln hm
      have l5 : rl s3 10005 tx = 24 := by rcases htx with w | w <;> rw [w]; exact cln_at hm3 10005 0 24 (by decide); exact cln_at hm3 10005 1 24 (by decide)
      have l6 : rl s3 10006 tx = 24 := by rcases htx with w | w <;> rw [w]; exact cln_at hm3 10006 0 24 (by decide); exact cln_at hm3 10006 1 24 (by decide)
      have l4 : rl s3 10004 tx = 8 := by rcases htx with w | w <;> rw [w]; exact cln_at hm3 10004 0 8 (by decide); exact cln_at hm3 10004 1 8 (by decide)
      have nT : ∀ F, 10000 ≤ F → ([(8001, 0)] : List (Nat × Int)).contains (F, tx) = false := fun F hF => by
        simp
        intro w; omega
      have g3 : rs s3 10001 tx = ((g : Nat) : Int) := by rw [f3.nrs 10001 tx (nT _ (by decide)), (hT 10001 (by decide) (by decide)).1]; exact hg
      have S3 : rs s3 10000 tx = S := by rw [f3.nrs 10000 tx (nT _ (by decide)), (hT 10000 (by decide) (by decide)).1]; exact hS
      refine wp_Text_addGiven ⟨by omega, ?_⟩
      rw [g3, if_neg (by omega)]
      refine ⟨by omega, wp_Text_hasScope ?_⟩
      rw [if_neg (by omega), S3, if_neg (by omega), if_neg (by omega)]
      refine ⟨by omega, ?_⟩
      rw [if_neg (by decide), l5, g3]
      refine ⟨by omega, by omega, by omega, fun s6 e6 => ?_⟩
      have f6 : sq [(10005, tx)] s3 s6 := by rw [e6]; exact (sq.rf _ s3).pwa 10005 tx _ _ (List.contains_iff_mem.mpr List.mem_cons_self)
      have r6 : ∀ j : Int, ra s6 10005 tx j = if j = ((g : Nat) : Int) then s else ra s3 10005 tx j := fun j => by
        rw [e6]
        unfold wa
        rw [raf_wA, if_pos ⟨rfl, rfl⟩]
        rfl
      clear e6
      rw [f6.nrl 10006 tx, l6, f6.nrs 10001 tx (by simp), g3]
      refine ⟨by omega, by omega, by omega, fun s10 e10 => ?_⟩
      have f10 : sq [(10006, tx)] s6 s10 := by rw [e10]; exact (sq.rf _ s6).pwa 10006 tx _ _ (List.contains_iff_mem.mpr List.mem_cons_self)
      have r10 : ∀ j : Int, ra s10 10006 tx j = if j = ((g : Nat) : Int) then ((rows.length : Nat) : Int) - 1 else ra s6 10006 tx j := fun j => by
        rw [e10]
        unfold wa
        rw [raf_wA, if_pos ⟨rfl, rfl⟩]
        rfl
      clear e10
      rw [f10.nrl 10004 tx, f6.nrl 10004 tx, l4, f10.nrs 10001 tx (by simp), f6.nrs 10001 tx (by simp), g3]
      refine ⟨by omega, s0, by omega, fun s16 e16 => ?_⟩
      have f16 : sq [(10004, tx)] s10 s16 := by rw [e16]; exact (sq.rf _ s10).pwa 10004 tx _ _ (List.contains_iff_mem.mpr List.mem_cons_self)
      have r16 : ∀ j : Int, ra s16 10004 tx j = if j = s then bOr (ra s10 10004 tx s) (bShl 1 ((g : Nat) : Int)) else ra s10 10004 tx j := fun j => by
        rw [e16]
        unfold wa
        rw [raf_wA, if_pos ⟨rfl, rfl⟩]
        rfl
      clear e16
      rw [f16.nrs 10001 tx (by simp), f10.nrs 10001 tx (by simp), f6.nrs 10001 tx (by simp), g3]
      refine ⟨⟨by omega, by omega⟩, fun s18 e18 => ?_⟩
      have f18 : sq [(10001, tx)] s16 s18 := by rw [e18]; exact (sq.rf _ s16).pws 10001 tx _ (List.contains_iff_mem.mpr List.mem_cons_self)
      have r18 : rs s18 10001 tx = ((g : Nat) : Int) + 1 := by rw [e18, rs_ws, if_pos ⟨rfl, rfl⟩]
      clear e18
      have F : sq [(10001, tx), (10004, tx), (10005, tx), (10006, tx)] s3 s18 := (((f6.mo (by simp)).tr (f10.mo (by simp))).tr (f16.mo (by simp))).tr (f18.mo (by simp))
      have eF : tqq tx s3 s18 := F.tqq (fun p hp => by
        simp at hp
        unfold tFp
        rcases hp with w | w | w | w <;> rw [w] <;> simp)
      have fl : ∀ {q : Int} {r : List Int}, fT s3 q r → fT s18 q r := fun {q r} h => h.sq F (by simp)
      have a3 : ∀ G, 10000 ≤ G → G ≤ 10006 → ∀ j, ra s3 G tx j = ra σ G tx j := fun G hG1 hG2 j => by
        rw [f3.nra G tx j (nT G hG1)]
        exact (hT G hG1 hG2).2 j
      refine hq1 q24 (by rw [hG]) s18 ((e2.tr e3).tr eF) ?_ ⟨r18, ?_⟩ ⟨?_, ?_, fun i hi => ?_⟩ (fun j hj => ⟨?_, ?_⟩) (fun j => ⟨?_, ?_, ?_⟩) (fun q r hq hf => fl ((vo q r hq hf).sq f3 (by decide)))
      · rw [hG, F.nrs 8001 0 (by simp)]; exact r3
      · rw [F.nrs 10000 tx (by simp)]; exact S3
      · rw [f18.nra 10005 tx _ (by simp), f16.nra 10005 tx _ (by simp), f10.nra 10005 tx _ (by simp), r6, if_pos rfl]
      · rw [hG, f18.nra 10006 tx _ (by simp), f16.nra 10006 tx _ (by simp), r10, if_pos rfl]
      · rw [hG] at hi ⊢
        exact fl ((vr i hi).sq f3 (by decide))
      · rw [f18.nra 10005 tx _ (by simp), f16.nra 10005 tx _ (by simp), f10.nra 10005 tx _ (by simp), r6, if_neg (by omega)]; exact a3 10005 (by decide) (by decide) j
      · rw [f18.nra 10006 tx _ (by simp), f16.nra 10006 tx _ (by simp), r10, if_neg (by omega), f6.nra 10006 tx _ (by simp)]; exact a3 10006 (by decide) (by decide) j
      · rw [F.nra 10002 tx _ (by simp)]; exact a3 10002 (by decide) (by decide) j
      · rw [F.nra 10003 tx _ (by simp)]; exact a3 10003 (by decide) (by decide) j
      · rw [f18.nra 10004 tx _ (by simp), r16, f10.nra 10004 tx _ (by simp), f6.nra 10004 tx _ (by simp), a3 10004 (by decide) (by decide) s]
        by_cases qs : j = s
        · rw [if_pos qs, if_pos qs]
        · rw [if_neg qs, if_neg qs, f10.nra 10004 tx _ (by simp), f6.nra 10004 tx _ (by simp)]
          exact a3 10004 (by decide) (by decide) j
    · rw [if_neg q] at hG
      rw [if_neg (fun w => w rfl)]
      exact hq0 q24 (by rw [hG]) s2 e2 (by rw [hG]; exact v1)
  -- a type is read into its place
  have hTk : ∀ {o : Int} {s2 s3 : jS}, sq (tyF o) s2 s3 → ∀ F, 10000 ≤ F → rs s3 F tx = rs s2 F tx ∧ ∀ j, ra s3 F tx j = ra s2 F tx j := fun {o s2 s3} e F hF => ⟨e.nrs F tx (tyF_no (by omega)), fun j => e.nra F tx j (tyF_no (by omega))⟩
  have hRng : ∀ i : Nat, i ≤ 4 → 2 + 120 * tx ≤ 2 + 120 * tx + (5 * ((g : Nat) : Int) + ((i : Nat) : Int)) ∧ 2 + 120 * tx + (5 * ((g : Nat) : Int) + ((i : Nat) : Int)) < 122 + 120 * tx := fun i hi => ⟨by omega, by omega⟩
  have hCap : ∀ {s2 : jS}, tqq tx σ s2 → ∀ i : Nat, i ≤ 4 → rl s2 0 (2 + 120 * tx + (5 * ((g : Nat) : Int) + ((i : Nat) : Int))) = 12 := fun {s2} e i hi => by
    rw [e.rl]
    exact hF _ (by omega) (by omega)
  have hP2 : ∀ {s2 : jS}, tqq tx σ s2 → ∀ j, 0 ≤ j → j < 120 → ra s2 10008 tx j = 2 + 120 * tx + j := fun {s2} e j j0 j1 => by
    have : ¬ tFp tx 10008 tx := by unfold tFp; omega
    rw [(e.1 10008 tx this).2]
    exact hP j j0 j1
  -- the NEEDS
  have needs : ∀ (k : Nat) (rows : List (List Int)) (b : Nat) (s2 : jS), rows.length + k = 5 → 1 ≤ rows.length → 1 ≤ k → b < D.length → (rdG D a = if (rdN D k b rows).1 = false then (false, (rdN D k b rows).2.1, []) else semi D (rdN D k b rows).2.1 (rdN D k b rows).2.2) → tqq tx σ s2 → (∀ F, 10000 ≤ F → F ≤ 10006 → rs s2 F tx = rs σ F tx ∧ ∀ j, ra s2 F tx j = ra σ F tx j) → rs s2 8001 0 = ((b + 1 : Nat) : Int) → (∀ i : Nat, i < rows.length → fT s2 (2 + 120 * tx + (5 * ((g : Nat) : Int) + ((i : Nat) : Int))) (rows.getD i [])) → (∀ q r, q < 2 + 120 * tx + 5 * ((g : Nat) : Int) → fT σ q r → fT s2 q r) → J n c_Tape_readGiven (some .boolean) 49 [some (jo 8 0), some (jo 10 tx), some (ji s), some (ji ((g : Nat) : Int)), some (ji (((rows.length : Nat) : Int) - 1))] [] s2 (qI Q) := by
    intro k
    induction k with
    | zero => intro rows b s2 _ _ h; omega
    | succ k ih =>
      intro rows b s2 hl hr1 _ hb hG e2 hT v1 vr vo
      have hTo := rdT_ok (D := D) (a := b + 1) (by omega)
      refine wp_Tape_readGiven_49 ⟨⟨by omega, by omega⟩, by omega, by omega, by omega, ?_⟩
      rw [show ((rows.length : Nat) : Int) - 1 + 1 = ((rows.length : Nat) : Int) by omega]
      refine c_partFlat htx (e2.cln hm) (hP2 e2) (by omega) (by omega) (by omega) ?_
      refine c_readOne (D := D) (a := b + 1) (by omega) (e2.cln hm) (e2.tp hD) (by omega) v1 (by omega) (hCap e2 rows.length (by omega)) (fun w s8 f8 w1 wf => ?_) (fun w s8 f8 w1 => ?_)
      · have E8 : tqq tx σ s8 := e2.tr (f8.tqq (tyF_fp (hRng rows.length (by omega))))
        have hT8 : ∀ F, 10000 ≤ F → F ≤ 10006 → rs s8 F tx = rs σ F tx ∧ ∀ j, ra s8 F tx j = ra σ F tx j := fun F h1 h2 => ⟨(hTk f8 F h1).1.trans (hT F h1 h2).1, fun j => ((hTk f8 F h1).2 j).trans ((hT F h1 h2).2 j)⟩
        have hlr : (rows ++ [(rdT D (b + 1)).2.2]).length = rows.length + 1 := gd_len
        have hend : ((rows ++ [(rdT D (b + 1)).2.2]).length : Int) - 1 = ((rows.length : Nat) : Int) := by rw [hlr]; omega
        have vr8 : ∀ i : Nat, i < (rows ++ [(rdT D (b + 1)).2.2]).length → fT s8 (2 + 120 * tx + (5 * ((g : Nat) : Int) + ((i : Nat) : Int))) ((rows ++ [(rdT D (b + 1)).2.2]).getD i []) := fun i hi => by
          by_cases q : i < rows.length
          · rw [gd_old q]
            exact fT_ty (vr i q) f8 (by omega)
          · have ei : i = rows.length := by omega
            subst ei
            rw [gd_new]
            exact wf
        have vo8 : ∀ q r, q < 2 + 120 * tx + 5 * ((g : Nat) : Int) → fT σ q r → fT s8 q r := fun q r hq2 hf2 => fT_ty (vo q r hq2 hf2) f8 (by omega)
        have last : ¬ (tpN D (rdT D (b + 1)).2.1 = 44 ∧ ¬ k = 0) → TrI (n - 1) i_Tape_passed [jo 8 0, ji 59] s8 (fun zr12 zs11 => (if ¬ zr12 = 0 then TrV (n - 1) i_Text_addGiven [jo 10 tx, ji s, ji ((rows.length : Nat) : Int)] zs11 (fun zs13 => Q 1 zs13) else Q 0 zs11)) := fun hno => by
          rw [rdN_e w hno, if_neg (fun v => by cases v)] at hG
          rw [← hend]
          exact fin _ _ s8 hTo.1 (by omega) (by omega) hG E8 hT8 w1 vr8 vo8
        rw [if_pos (by decide)]
        by_cases qk : k = 0
        · rw [if_pos (by omega)]
          exact last (fun v => v.2 qk)
        · rw [if_neg (by omega)]
          refine c_passed (D := D) (a := (rdT D (b + 1)).2.1) (by omega) (E8.cln hm) (E8.tp hD) w1 (by decide) (fun q44 s14 f14 r14 => ?_) (fun q44 => ?_)
          · rw [rdN_m w ⟨q44, qk⟩] at hG
            have hlt := tpN_lt (D := D) (a := (rdT D (b + 1)).2.1) (by rw [q44]; decide)
            have nT : ∀ F, 10000 ≤ F → ([(8001, 0)] : List (Nat × Int)).contains (F, tx) = false := fun F hF => by
              simp
              intro w; omega
            have E14 : tqq tx s8 s14 := f14.tqq (fun p hp => by
              rw [List.mem_singleton] at hp
              rw [hp]; exact Or.inl ⟨Or.inl rfl, rfl⟩)
            rw [if_pos (by decide), ← hend]
            exact ih _ _ s14 (by omega) (by omega) (by omega) hlt hG (E8.tr E14) (fun F h1 h2 => ⟨(f14.nrs F tx (nT F h1)).trans (hT8 F h1 h2).1, fun j => (f14.nra F tx j (nT F h1)).trans ((hT8 F h1 h2).2 j)⟩) r14 (fun i hi => (vr8 i hi).sq f14 (by decide)) (fun q r hq2 hf2 => (vo8 q r hq2 hf2).sq f14 (by decide))
          · rw [if_neg (fun v => v rfl)]
            exact last (fun v => q44 v.1)
      · rw [rdN_f w, if_pos rfl] at hG
        rw [if_neg (fun v => v rfl)]
        exact hq0 q24 (by rw [hG]) s8 (e2.tr (f8.tqq (tyF_fp (hRng rows.length (by omega))))) (by rw [hG]; exact w1)
  have hTo := rdT_ok (D := D) (a := a) ha
  have hG : rdG D a = rdG D a := rfl
  conv at hG => rhs; unfold rdG
  refine ⟨by omega, by omega, c_partFlat (i := 0) htx hm hP (by omega) (by omega) (by omega) ?_⟩
  refine c_readOne (D := D) (a := a) (by omega) hm hD ha h1 (by omega) (hCap (tqq.rf tx σ) 0 (by omega)) (fun w s7 f7 w1 wf => ?_) (fun w s7 f7 w1 => ?_)
  · rw [if_neg (by rw [w]; decide)] at hG
    have E7 : tqq tx σ s7 := f7.tqq (tyF_fp (hRng 0 (by omega)))
    have hT7 : ∀ F, 10000 ≤ F → F ≤ 10006 → rs s7 F tx = rs σ F tx ∧ ∀ j, ra s7 F tx j = ra σ F tx j := fun F h1 _ => hTk f7 F h1
    have vr7 : ∀ i : Nat, i < ([(rdT D a).2.2] : List (List Int)).length → fT s7 (2 + 120 * tx + (5 * ((g : Nat) : Int) + ((i : Nat) : Int))) (([(rdT D a).2.2] : List (List Int)).getD i []) := fun i hi => by
      have hi0 : i = 0 := by have : i < 1 := hi; omega
      subst hi0
      exact wf
    have vo7 : ∀ q r, q < 2 + 120 * tx + 5 * ((g : Nat) : Int) → fT σ q r → fT s7 q r := fun q r hq2 hf2 => fT_ty hf2 f7 (by omega)
    have nT : ∀ F, 10000 ≤ F → ([(8001, 0)] : List (Nat × Int)).contains (F, tx) = false := fun F hF => by
      simp
      intro w; omega
    rw [if_pos (by decide)]
    refine c_passed (D := D) (a := (rdT D a).2.1) (by omega) (E7.cln hm) (E7.tp hD) w1 (by decide) (fun q60 s9 f9 r9 => ?_) (fun q60 => ?_)
    · rw [if_pos q60] at hG
      have hlt := tpN_lt (D := D) (a := (rdT D a).2.1) (by rw [q60]; decide)
      have E9 : tqq tx σ s9 := E7.tr (f9.tqq (fun p hp => by
        rw [List.mem_singleton] at hp
        rw [hp]; exact Or.inl ⟨Or.inl rfl, rfl⟩))
      rw [if_neg (by decide)]
      refine c_passed (D := D) (a := (rdT D a).2.1 + 1) (by omega) (E9.cln hm) (E9.tp hD) r9 (by decide) (fun q45 s15 f15 r15 => ?_) (fun q45 => ?_)
      · rw [if_pos q45] at hG
        have hlt2 := tpN_lt (D := D) (a := (rdT D a).2.1 + 1) (by rw [q45]; decide)
        have E15 : tqq tx σ s15 := E9.tr (f15.tqq (fun p hp => by
          rw [List.mem_singleton] at hp
          rw [hp]; exact Or.inl ⟨Or.inl rfl, rfl⟩))
        rw [if_pos (by decide)]
        have := needs 4 [(rdT D a).2.2] ((rdT D a).2.1 + 1) s15 rfl (by show 1 ≤ 1; omega) (by omega) hlt2 hG E15 (fun F h1 h2 => ⟨((f15.nrs F tx (nT F h1)).trans (f9.nrs F tx (nT F h1))).trans (hT7 F h1 h2).1, fun j => ((f15.nra F tx j (nT F h1)).trans (f9.nra F tx j (nT F h1))).trans ((hT7 F h1 h2).2 j)⟩) r15 (fun i hi => ((vr7 i hi).sq f9 (by decide)).sq f15 (by decide)) (fun q r hq2 hf2 => ((vo7 q r hq2 hf2).sq f9 (by decide)).sq f15 (by decide))
        exact this
      · rw [if_neg q45] at hG
        rw [if_neg (fun v => v rfl)]
        exact hq0 q24 (by rw [hG]) s9 E9 (by rw [hG]; exact r9)
    · rw [if_neg q60] at hG
      rw [if_pos rfl]
      have := fin [(rdT D a).2.2] (rdT D a).2.1 s7 hTo.1 (by show 1 ≤ 1; omega) (by show 1 ≤ 5; omega) hG E7 hT7 w1 vr7 vo7
      exact this
  · rw [if_pos w] at hG
    rw [if_neg (fun v => v rfl)]
    exact hq0 q24 (by rw [hG]) s7 (f7.tqq (tyF_fp (hRng 0 (by omega)))) (by rw [hG]; exact w1)
end ZTz
