/-! What would be: without a given one; which are needed; which mend. -/
def askF (ask : zS → Int → zS × zQ) : Prop := ∀ s y, sM (ask s y).1 = sM s
section ZWi
variable {P : zP} {s : zS} {x k : Int}
theorem needs_F {ask : zS → Int → zS × zQ} (hF : askF ask) : ∀ (ys : List Int) (s : zS) (acc : List zI), sM (spNeeds ask ys s acc).1 = sM s := by
  intro ys
  induction ys with
  | nil => intro s acc; rfl
  | cons y ys ih =>
    intro s acc
    unfold spNeeds
    cases hc : (ask s y).2.2.1 with
    | none => exact hF s y
    | some t => exact (ih _ _).trans (hF s y)
theorem try_F {ask : zS → Int → zS × zQ} (hF : askF ask) : sM (spTry P ask k x s).1 = sM s := by
  have a : sM (spNeeds ask (layGv P.1 k (hG s) (hN s)).2.2.2 (spLay P.1 k x s) []).1 = sM s := needs_F hF _ _ _
  unfold spTry
  cases hc : (spNeeds ask (layGv P.1 k (hG s) (hN s)).2.2.2 (spLay P.1 k x s) []).2.2.1 with
  | none => exact a
  | some t =>
    dsimp only
    split
    · exact a
    · exact a
theorem best_F {ask : Int → zS → Int → zS × zQ} {path : List (Int × Int)} {lvl cds unt : Int} (hF : ∀ k, askF (ask k)) : ∀ (ks : List Int) (s : zS) (f : Int) (one : Option (Int × List zI × List (Int × Int))) (another : Option Int), sM (spBest P ask path x lvl cds unt ks s f one another).1 = sM s := by
  intro ks
  induction ks with
  | nil =>
    intro s f one another
    cases one with
    | none => rfl
    | some o => cases another <;> rfl
  | cons k ks ih =>
    intro s f one another
    have tf := try_F (P := P) (x := x) (k := k) (s := s) (hF k)
    unfold spBest
    by_cases q : dcd (cutP s path x k) = true
    · rw [if_pos q]
      exact ih _ _ _ _
    · rw [if_neg q]
      by_cases q2 : (spTry P (ask k) k x s).2.1 = 0
      · rw [if_neg (fun w => w q2)]
        cases hc : (spTry P (ask k) k x s).2.2.1 with
        | none => exact (ih _ _ _ _).trans tf
        | some t1 =>
          cases one with
          | none => exact (ih _ _ _ _).trans tf
          | some o => exact (ih _ _ _ _).trans tf
      · rw [if_pos q2]
        exact tf
theorem rounds_F {ask : Int → zS → Int → zS × zQ} {path : List (Int × Int)} {lvl cds : Int} (hF : ∀ k, askF (ask k)) : ∀ (m : Nat) (C : List Int) (s : zS) (f : Int), sM (spRounds P ask path x lvl cds m C s f).1 = sM s := by
  intro m
  induction m with
  | zero => intro C s f; rfl
  | succ m ih =>
    intro C s f
    unfold spRounds
    by_cases q : C = []
    · rw [if_pos q]
    · rw [if_neg q]
      have b := best_F (P := P) (x := x) (path := path) (lvl := lvl) (cds := cds) (unt := ((C.length : Nat) - ((bstL P.1 C).length : Nat))) hF (bstL P.1 C) s f none none
      cases hb : (spBest P ask path x lvl cds ((C.length : Nat) - ((bstL P.1 C).length : Nat)) (bstL P.1 C) s f none none).2.1.2.1 with
      | some t1 => exact b
      | none =>
        dsimp only
        split
        · exact b
        · exact (ih _ _ _).trans b
theorem seek_F {ask : Int → zS → Int → zS × zQ} {path : List (Int × Int)} (hF : ∀ k, askF (ask k)) : ∀ (m : Nat) (sc lvl : Int) (s : zS), sM (spSeek P ask path x m sc lvl s).1 = sM s := by
  intro m
  induction m with
  | zero => intro sc lvl s; rfl
  | succ m ih =>
    intro sc lvl s
    have b := rounds_F (P := P) (x := x) (path := path) (lvl := lvl) (cds := ((canL P s x sc).length : Nat)) hF 24 (canL P s x sc) s 0
    unfold spSeek
    cases hc : (spRounds P ask path x lvl ((canL P s x sc).length : Nat) 24 (canL P s x sc) s 0).2.2.1 with
    | some t => exact b
    | none =>
      dsimp only
      split
      · exact b
      · split
        · exact b
        · exact (ih _ _ _).trans b
theorem ask_F (hP : P.2.2.2.2 = false) : ∀ (m : Nat) (path : List (Int × Int)), askF (askS P m path) := by
  intro m
  induction m with
  | zero => intro path s y; rfl
  | succ m ih =>
    intro path s y
    unfold askS
    split
    · rfl
    · split
      · rfl
      · split
        · rfl
        · split
          · rfl
          · have b := seek_F (P := P) (x := y) (path := path) (ask := fun k s' y' => askS P m (path ++ [(k, y)]) s' y') (fun k => ih _) 6 P.2.2.2.1 0 (s.1, sM s, sA s + 1, sMt s, sC s, sTr s, max (sD s) ((path.length : Nat) + 1))
            unfold spKeep
            rw [hP, Bool.false_and, if_neg (fun w => by cases w.1)]
            exact b
end ZWi
def apL : List (Nat × Int) := [(12011, 0), (12015, 0), (12016, 0), (12017, 0), (0, 245), (1, 245), (0, 246), (1, 246), (6000, 2), (6001, 2), (3001, 1), (3002, 1)]
def ewF : List (Nat × Int) := (1015, 0) :: aaF
/-- which bits are set: of those of which f is not 0; of those that are in O and of which f is 0 -/
def neB (f : Int → Int) : Nat → Int
  | 0 => 0
  | m + 1 => if f ((m : Nat) : Int) = 0 then neB f m else bOr (neB f m) (bShl 1 ((m : Nat) : Int))
def meB (O : Int) (f : Int → Int) : Nat → Int
  | 0 => 0
  | m + 1 => if tb O ((m : Nat) : Int) = true ∧ f ((m : Nat) : Int) = 0 then bOr (meB O f m) (bShl 1 ((m : Nat) : Int)) else meB O f m
theorem neB_i (f : Int → Int) : ∀ m, i32 (neB f m) := by
  intro m
  induction m with
  | zero => exact i32_0
  | succ m ih =>
    show i32 (if f ((m : Nat) : Int) = 0 then neB f m else _)
    split
    · exact ih
    · exact i32_bOr _ _
theorem meB_i (O : Int) (f : Int → Int) : ∀ m, i32 (meB O f m) := by
  intro m
  induction m with
  | zero => exact i32_0
  | succ m ih =>
    show i32 (if tb O ((m : Nat) : Int) = true ∧ f ((m : Nat) : Int) = 0 then _ else meB O f m)
    split
    · exact i32_bOr _ _
    · exact ih
theorem bOr_0 {x : Int} (h : i32 x) : bOr x 0 = x := tb_ext (i32_bOr _ _) h (fun k k0 k1 => by rw [tb_or, tb_0, Bool.or_false])
noncomputable def wiE (T : zT) (O U k : Int) (M : zM) (r : List Int) : Int := endE (askW (T, O, U, k, false) M r)
section ZWj
variable {n : Nat} {σ0 σ σ1 : jS} {T : zT} {M : zM} {e a b k i O U : Int} {s : zS} {W : List zN} {c r : List Int} {Fp : Nat → Int → Prop}
theorem aPc_gq (h : aPc σ e s W a b c r k) (g : gq Fp σ σ1) (hl : ∀ p, p ∈ apL → ¬ Fp p.1 p.2) : aPc σ1 e s W a b c r k := by
  obtain ⟨h1, h2, h3, h4, h5⟩ := h
  have ft : ∀ (o : Int) (r : List Int), (o = 245 ∨ o = 246) → fT σ o r → fT σ1 o r := fun o r ho hf => by
    unfold fT
    have e0 : ¬ Fp 0 o := by rcases ho with w | w <;> rw [w]; exact hl (0, 245) (by decide); exact hl (0, 246) (by decide)
    have e1 : ¬ Fp 1 o := by rcases ho with w | w <;> rw [w]; exact hl (1, 245) (by decide); exact hl (1, 246) (by decide)
    rw [g.nrs 1 o (by decide) e1, g.nraf 0 o (by decide) e0, g.nrl 0 o (by decide) e0]
    exact hf
  refine ⟨fun i hi => by rw [g.nraf 12011 0 (by decide) (hl (12011, 0) (by decide))]; exact h1 i hi, ⟨by rw [g.nrs 6000 2 (by decide) (hl (6000, 2) (by decide))]; exact h2.1, treeW_cong (g.nraf 6001 2 (by decide) (hl (6001, 2) (by decide))) (g.nraf 3001 1 (by decide) (hl (3001, 1) (by decide))) (g.nrs 3002 1 (by decide) (hl (3002, 1) (by decide))) h2.2.1, ?_⟩, fun w => ?_, ft 245 r (Or.inl rfl) h4, by rw [g.nrs 12015 0 (by decide) (hl (12015, 0) (by decide))]; exact h5⟩
  · unfold fok
    rw [g.nrs 6000 2 (by decide) (hl (6000, 2) (by decide)), g.nrl 6001 2 (by decide) (hl (6001, 2) (by decide)), g.nrs 3002 1 (by decide) (hl (3002, 1) (by decide)), g.nrl 3001 1 (by decide) (hl (3001, 1) (by decide))]
    exact h2.2.2
  · obtain ⟨c1, c2, c3⟩ := h3 w
    exact ⟨by rw [g.nrs 12016 0 (by decide) (hl (12016, 0) (by decide))]; exact c1, by rw [g.nrs 12017 0 (by decide) (hl (12017, 0) (by decide))]; exact c2, ft 246 c (Or.inr rfl) c3⟩
theorem rq_gq (h : rq σ σ1) : gq rFp σ σ1 := h.1
theorem apL_r : ∀ p, p ∈ apL → ¬ rFp p.1 p.2 := by unfold rFp askFp apL; decide
theorem aPm_sq {l : List (Nat × Int)} (h : aPm σ e s W a b c r k) (f : sq l σ σ1) (hl : (([(1051, 0), (1112, 0), (1114, 0), (1115, 0), (1116, 0), (1117, 0), (1118, 0), (1119, 0), (1120, 0), (1121, 0), (1122, 0), (1123, 0), (1124, 0), (1126, 0), (1125, 0), (1127, 0), (1128, 0), (1129, 0), (1048, 0), (1049, 0), (1050, 0)] : List (Nat × Int)).all (fun p => !l.contains p)) = true) : aPm σ1 e s W a b c r k := by
  have hm : ∀ p, p ∈ ([(1051, 0), (1112, 0), (1114, 0), (1115, 0), (1116, 0), (1117, 0), (1118, 0), (1119, 0), (1120, 0), (1121, 0), (1122, 0), (1123, 0), (1124, 0), (1126, 0), (1125, 0), (1127, 0), (1128, 0), (1129, 0), (1048, 0), (1049, 0), (1050, 0)] : List (Nat × Int)) → l.contains p = false := fun p hp => by
    have := List.all_eq_true.mp hl p hp
    simpa using this
  have hor : (l.contains (1125, 0) || l.contains (1127, 0)) = false := by rw [hm (1125, 0) (by decide), hm (1127, 0) (by decide)]; rfl
  have htr : (([(1114, 0), (1115, 0), (1116, 0), (1117, 0), (1118, 0), (1119, 0), (1120, 0), (1121, 0), (1122, 0), (1123, 0), (1124, 0), (1126, 0)] : List (Nat × Int)).all (fun p => !l.contains p)) = true := List.all_eq_true.mpr (fun p hp => by
    have h0 : ∀ p, p ∈ ([(1114, 0), (1115, 0), (1116, 0), (1117, 0), (1118, 0), (1119, 0), (1120, 0), (1121, 0), (1122, 0), (1123, 0), (1124, 0), (1126, 0)] : List (Nat × Int)) → p ∈ ([(1051, 0), (1112, 0), (1114, 0), (1115, 0), (1116, 0), (1117, 0), (1118, 0), (1119, 0), (1120, 0), (1121, 0), (1122, 0), (1123, 0), (1124, 0), (1126, 0), (1125, 0), (1127, 0), (1128, 0), (1129, 0), (1048, 0), (1049, 0), (1050, 0)] : List (Nat × Int)) := by decide
    rw [hm p (h0 p hp)]; rfl)
  obtain ⟨h1, h2, h3, h4, h5, h6, h7, h8, h9⟩ := h
  refine ⟨by rw [f.nrs 1051 0 (hm _ (by decide))]; exact h1, fun i hi => by rw [f.nra 1112 0 _ (hm _ (by decide))]; exact h2 i hi, h3.sq f htr, fun w => (h4 w).sq f hor, fun w => ?_, fun w w2 => by rw [f.nrs 1127 0 (hm _ (by decide))]; exact h6 w w2, by rw [f.nrs 1049 0 (hm _ (by decide))]; exact h7, fun i hi => by rw [f.nra 1048 0 _ (hm _ (by decide))]; exact h8 i hi, by rw [f.nrs 1050 0 (hm _ (by decide))]; exact h9⟩
  obtain ⟨c1, c2, c3⟩ := h5 w
  exact ⟨by rw [f.nrs 1128 0 (hm _ (by decide))]; exact c1, by rw [f.nrs 1129 0 (hm _ (by decide))]; exact c2, c3.sq f hor⟩
/-- an asking apart: the class -/
theorem c_apart {Q : Int → jS → Prop} (hn : n = 126) (hZ : cZ σ T M) (hsc : 0 ≤ k ∧ k < tS T) (hr : rwk r) (hf : fT σ 245 r) (hq : ∀ σ', rq σ σ' → cZ σ' T M → Q (wiE T O U k M r) σ') : TrI n i_Search_run [jo 7 0, jo 0 245, ji k, ji O, ji U, ji 0] σ Q :=
  c_run (P := (T, O, U, k, false)) (M := M) hn hZ hsc rfl hr hf (fun σa σ1 σ' _ _ _ _ _ _ h7 h8 => hq σ' h7 (by
    have e : sM (askW (T, O, U, k, false) M r).1 = M := ask_F (P := (T, O, U, k, false)) rfl 21 [] (s00 r M) (x00 r)
    rw [e] at h8
    exact h8))
/-- an asking apart: the reference -/
theorem t_apart {Q : Int → jS → Prop} {O0 : Int} (hn : 22 ≤ n) (hm : mln σ) (hX : mTx σ T) (hMm : mMem σ M) (hO : rs σ 1015 0 = O0) (hU : rs σ 1016 0 = U) (hsc : 0 ≤ k ∧ k < tS T) (hr : rwk r) (h49 : rs σ 1049 0 = ((r.length : Nat) : Int)) (h48 : ∀ i : Nat, i < r.length → ra σ 1048 0 ((i : Nat) : Int) = r.getD i 0) (h50 : rs σ 1050 0 = k)
    (hq : ∀ σ', sq ewF σ σ' → rs σ' 1015 0 = O0 → mMem σ' M → Q (wiE T O U k M r) σ') : TrI n i_Model_endWith [jo 1 0, ji O] σ Q := by
  have eM : sM (askW (T, O, U, k, false) M r).1 = M := ask_F (P := (T, O, U, k, false)) rfl 21 [] (s00 r M) (x00 r)
  refine wp_Model_endWith ⟨by omega, fun s2 e2 => ⟨by omega, ?_⟩⟩
  have f2 : sq [(1015, 0)] σ s2 := by rw [e2]; exact (sq.rf _ σ).pws 1015 0 _ (by decide)
  have r2 : rs s2 1015 0 = O := by rw [e2, rs_ws, if_pos ⟨rfl, rfl⟩]
  clear e2
  have fin : ∀ s4 v, sq aaF s2 s4 → mMem s4 M → v = wiE T O U k M r → ∀ s6, s6 = ws s4 1015 0 (rs σ 1015 0) → Q v s6 := by
    intro s4 v e4 hM4 hv s6 e6
    have f6 : sq [(1015, 0)] s4 s6 := by rw [e6]; exact (sq.rf _ s4).pws 1015 0 _ (by decide)
    rw [hv]
    exact hq s6 (((f2.mo (by decide)).tr (e4.mo (by decide))).tr (f6.mo (by decide))) (by rw [e6, rs_ws, if_pos ⟨rfl, rfl⟩]; exact hO) (mMem.sq hM4 f6 (by decide))
  refine t_askAll (P := (T, O, U, k, false)) (M := M) (r := r) (by omega) (hm.sq f2) (hX.sq f2 (by decide)) r2 (by rw [f2.nrs 1016 0 (by decide)]; exact hU) (by rw [f2.nrs 1050 0 (by decide)]; exact h50) hsc rfl (by rw [f2.nrs 1049 0 (by decide)]; exact h49) (fun i hi => by rw [f2.nra 1048 0 _ (by decide)]; exact h48 i hi) hr (mMem.sq hMm f2 (by decide)) (fun q0 σa s4 ea hp e4 v4 s6 e6 => ?_) (fun q0 σa s4 ea hp e4 v4 s6 e6 => ?_)
  · have hM4 := hp.2.1.2.2.2.2.2.1
    rw [eM] at hM4
    refine fin s4 _ e4 hM4 ?_ s6 e6
    unfold wiE endE
    rw [if_pos q0]
    cases (askW (T, O, U, k, false) M r).2.2.1 <;> rfl
  · have hM4 := hp.2.2.2.1
    rw [eM] at hM4
    refine fin s4 _ e4 hM4 ?_ s6 e6
    unfold wiE endE
    rw [if_neg q0]
theorem c_without {Q : Int → jS → Prop} (hn : n = 127) (hZ : cZ σ T M) (hA : aPc σ e s W a b c r k) (hp : aPp T e W c r k) (hO : rs σ 12009 0 = O) (hU : rs σ 12010 0 = U) (hq0 : ¬ (0 ≤ i ∧ i < tG T) → Q (-1) σ) (hq1 : 0 ≤ i ∧ i < tG T → ∀ σ', rq σ σ' → cZ σ' T M → Q (wiE T (bOr O (bShl 1 i)) U k M r) σ') : TrI n i_Top_without [jo 12 0, ji i] σ Q := by
  have hZ0 := hZ
  obtain ⟨z1, z2, ⟨p1, tx, p2, p3, p4, p5, p6, p7, p8, p9⟩, z4, z5, z6, z7⟩ := hZ
  have l11 := cln_at z1 12011 0 9 (by decide)
  have v0 : ra σ 12011 0 0 = e := hA.1 0 (by omega)
  have he := hp.1
  refine wp_Top_without ⟨by omega, by omega, by omega, ?_⟩
  rw [v0, if_neg (by omega), p4]
  refine ⟨by omega, by omega, c_hasGiven (by omega) p6 p1 ?_⟩
  by_cases q : 0 ≤ i ∧ i < tG T
  · rw [show (if 0 ≤ i ∧ i < tG T then (1 : Int) else 0) = 1 from if_pos q, if_pos (by decide), cC_at z2 12007 0 0 (by decide), cC_at z2 12012 0 245 (by decide), hA.2.2.2.2, hO, hU]
    exact ⟨by omega, c_apart (by omega) hZ0 ⟨hp.2.2.2.2.2.2.2.1, hp.2.2.2.2.2.2.2.2⟩ hp.2.2.2.2.2.2.1 hA.2.2.2.1 (hq1 q)⟩
  · rw [show (if 0 ≤ i ∧ i < tG T then (1 : Int) else 0) = 0 from if_neg q, if_neg (by decide)]
    exact hq0 q
theorem t_without {Q : Int → jS → Prop} (hn : 30 ≤ n) (hm : mln σ) (hX : mTx σ T) (hMm : mMem σ M) (hA : aPm σ e s W a b c r k) (hp : aPp T e W c r k) (hO : rs σ 1015 0 = O) (hU : rs σ 1016 0 = U) (hq0 : ¬ (0 ≤ i ∧ i < tG T) → Q (-1) σ) (hq1 : 0 ≤ i ∧ i < tG T → ∀ σ', sq ewF σ σ' → rs σ' 1015 0 = O → mMem σ' M → Q (wiE T (bOr O (bShl 1 i)) U k M r) σ') : TrI n i_Model_without [jo 1 0, ji i] σ Q := by
  refine wp_Model_without ⟨by omega, ?_⟩
  rw [hA.1, if_neg (by decide)]
  refine ⟨by omega, ind1 hm hX (by omega) (fun q => ?_) (fun q => ?_)⟩
  · rw [if_pos rfl]; exact hq0 q
  · rw [if_neg (by decide), hO]
    exact t_apart (by omega) hm hX hMm hO hU ⟨hp.2.2.2.2.2.2.2.1, hp.2.2.2.2.2.2.2.2⟩ hp.2.2.2.2.2.2.1 hA.2.2.2.2.2.2.1 hA.2.2.2.2.2.2.2.1 hA.2.2.2.2.2.2.2.2 (hq1 q)
theorem c_needed {Q : Int → jS → Prop} (hn : n = 127) (hZ : cZ σ T M) (hA : aPc σ e s W a b c r k) (hp : aPp T e W c r k) (hO : rs σ 12009 0 = O) (hU : rs σ 12010 0 = U) (hq0 : ¬ e = 0 → Q (-1) σ) (hq1 : e = 0 → ∀ σ', rq σ σ' → cZ σ' T M → Q (neB (fun i => wiE T (bOr O (bShl 1 i)) U k M r) (tG T).toNat) σ') : TrI n i_Top_needed [jo 12 0] σ Q := by
  have l11 := cln_at hZ.1 12011 0 9 (by decide)
  have v0 : ra σ 12011 0 0 = e := hA.1 0 (by omega)
  have hT := hZ.2.2.1.1
  have hG := hT.2.2.2.1
  have hG0 := hT.2.2.1
  refine wp_Top_needed ⟨by omega, by omega, by omega, ?_⟩
  rw [v0]
  by_cases q : e = 0
  · rw [if_pos q]
    have loop : ∀ (d m : Nat) (s2 : jS), ((m : Nat) : Int) + ((d : Nat) : Int) = tG T → rq σ s2 → cZ s2 T M → J n c_Top_needed (some .int) 15 [some (jo 12 0), some (ji (neB (fun i => wiE T (bOr O (bShl 1 i)) U k M r) m)), some (ji ((m : Nat) : Int))] [] s2 (qI Q) := by
      intro d
      induction d with
      | zero =>
        intro m s2 hd e2 Z2
        have Z20 := Z2
        obtain ⟨z1, z2, ⟨p1, tx, p2, p3, p4, p5, p6, p7, p8, p9⟩, z4, z5, z6, z7⟩ := Z2
        refine wp_Top_needed_15 ⟨by omega, by omega, ?_⟩
        rw [p4, p6, if_pos (by omega)]
        have := hq1 q s2 e2 Z20
        rw [show (tG T).toNat = m by omega] at this
        exact this
      | succ d ih =>
        intro m s2 hd e2 Z2
        have Z20 := Z2
        obtain ⟨z1, z2, ⟨p1, tx, p2, p3, p4, p5, p6, p7, p8, p9⟩, z4, z5, z6, z7⟩ := Z2
        have A2 := aPc_gq hA (rq_gq e2) apL_r
        have o2 : rs s2 12009 0 = O := by rw [(rq_gq e2).nrs 12009 0 (by decide) (by unfold rFp askFp; omega)]; exact hO
        have u2 : rs s2 12010 0 = U := by rw [(rq_gq e2).nrs 12010 0 (by decide) (by unfold rFp askFp; omega)]; exact hU
        refine wp_Top_needed_15 ⟨by omega, by omega, ?_⟩
        rw [p4, p6, if_neg (by omega), cC_at z2 12007 0 0 (by decide), cC_at z2 12012 0 245 (by decide), A2.2.2.2.2, o2, u2]
        refine ⟨by omega, by omega, c_apart (by omega) Z20 ⟨hp.2.2.2.2.2.2.2.1, hp.2.2.2.2.2.2.2.2⟩ hp.2.2.2.2.2.2.1 A2.2.2.2.1 (fun s5 e5 Z5 => ?_)⟩
        have nx := ih (m + 1) s5 (by omega) (e2.tr e5) Z5
        have e1 : neB (fun i => wiE T (bOr O (bShl 1 i)) U k M r) (m + 1) = if wiE T (bOr O (bShl 1 ((m : Nat) : Int))) U k M r = 0 then neB (fun i => wiE T (bOr O (bShl 1 i)) U k M r) m else bOr (neB (fun i => wiE T (bOr O (bShl 1 i)) U k M r) m) (bShl 1 ((m : Nat) : Int)) := rfl
        rw [e1] at nx
        by_cases qv : wiE T (bOr O (bShl 1 ((m : Nat) : Int))) U k M r = 0
        · rw [if_pos qv] at nx ⊢
          exact ⟨⟨by omega, by omega⟩, nx⟩
        · rw [if_neg qv] at nx ⊢
          exact ⟨⟨by omega, by omega⟩, nx⟩
    exact loop (tG T).toNat 0 σ (by omega) (rq.rf σ) hZ
  · rw [if_neg q]; exact hq0 q
theorem t_needed {Q : Int → jS → Prop} (hn : 30 ≤ n) (hm : mln σ) (hX : mTx σ T) (hMm : mMem σ M) (hA : aPm σ e s W a b c r k) (hp : aPp T e W c r k) (hO : rs σ 1015 0 = O) (hU : rs σ 1016 0 = U) (hq0 : ¬ e = 0 → Q (-1) σ) (hq1 : e = 0 → ∀ σ', sq ewF σ σ' → rs σ' 1015 0 = O → mMem σ' M → Q (neB (fun i => wiE T (bOr O (bShl 1 i)) U k M r) (tG T).toNat) σ') : TrI n i_Model_needed [jo 1 0] σ Q := by
  have l12 := mln_at hm 1112 9 (by decide)
  have v0 : ra σ 1112 0 0 = e := hA.2.1 0 (by omega)
  have hT := hX.1
  have hG := hT.2.2.2.1
  have hG0 := hT.2.2.1
  refine wp_Model_needed ⟨by omega, by omega, wp_Model_wasFound ⟨by omega, ?_⟩⟩
  rw [hA.1, if_neg (by decide), l12, v0]
  refine ⟨by omega, by omega, ?_⟩
  by_cases q : e = 0
  · rw [if_neg (fun h => h q), if_pos (by decide)]
    have loop : ∀ (d m : Nat) (s2 : jS), ((m : Nat) : Int) + ((d : Nat) : Int) = tG T → sq ewF σ s2 → rs s2 1015 0 = O → mMem s2 M → J n c_Model_needed (some .int) 13 [some (jo 1 0), some (ji (neB (fun i => wiE T (bOr O (bShl 1 i)) U k M r) m)), some (ji ((m : Nat) : Int))] [] s2 (qI Q) := by
      intro d
      induction d with
      | zero =>
        intro m s2 hd e2 o2 M2
        have X2 : mTx s2 T := hX.sq e2 (by decide)
        refine wp_Model_needed_13 ⟨by omega, ?_⟩
        rw [X2.2.2.1, if_pos (by omega)]
        have := hq1 q s2 e2 o2 M2
        rw [show (tG T).toNat = m by omega] at this
        exact this
      | succ d ih =>
        intro m s2 hd e2 o2 M2
        have X2 : mTx s2 T := hX.sq e2 (by decide)
        have A2 := aPm_sq hA e2 (by decide)
        refine wp_Model_needed_13 ⟨by omega, ?_⟩
        rw [X2.2.2.1, if_neg (by omega), o2]
        refine ⟨by omega, t_apart (n := n - 1) (O0 := O) (U := U) (by omega) (hm.sq e2) X2 M2 o2 (by rw [e2.nrs 1016 0 (by decide)]; exact hU) ⟨hp.2.2.2.2.2.2.2.1, hp.2.2.2.2.2.2.2.2⟩ hp.2.2.2.2.2.2.1 A2.2.2.2.2.2.2.1 A2.2.2.2.2.2.2.2.1 A2.2.2.2.2.2.2.2.2 (fun s5 e5 o5 M5 => ?_)⟩
        have nx := ih (m + 1) s5 (by omega) (e2.tr e5) o5 M5
        have e1 : neB (fun i => wiE T (bOr O (bShl 1 i)) U k M r) (m + 1) = if wiE T (bOr O (bShl 1 ((m : Nat) : Int))) U k M r = 0 then neB (fun i => wiE T (bOr O (bShl 1 i)) U k M r) m else bOr (neB (fun i => wiE T (bOr O (bShl 1 i)) U k M r) m) (bShl 1 ((m : Nat) : Int)) := rfl
        rw [e1] at nx
        by_cases qv : wiE T (bOr O (bShl 1 ((m : Nat) : Int))) U k M r = 0
        · rw [if_pos qv] at nx ⊢
          rw [bOr_0 (neB_i _ _)]
          exact ⟨⟨by omega, by omega⟩, nx⟩
        · rw [if_neg qv] at nx ⊢
          exact ⟨⟨by omega, by omega⟩, nx⟩
    exact loop (tG T).toNat 0 σ (by omega) (sq.rf _ σ) hO hMm
  · rw [if_pos q, if_neg (by decide)]; exact hq0 q
theorem c_mends {Q : Int → jS → Prop} (hn : n = 127) (hZ : cZ σ T M) (hA : aPc σ e s W a b c r k) (hp : aPp T e W c r k) (hO : rs σ 12009 0 = O) (hU : rs σ 12010 0 = U) (hq0 : e = 0 → Q (-1) σ) (hq1 : ¬ e = 0 → ∀ σ', rq σ σ' → cZ σ' T M → Q (meB O (fun i => wiE T (bAnd O (bXor (bShl 1 i) (-1))) U k M r) (tG T).toNat) σ') : TrI n i_Top_mends [jo 12 0] σ Q := by
  have l11 := cln_at hZ.1 12011 0 9 (by decide)
  have v0 : ra σ 12011 0 0 = e := hA.1 0 (by omega)
  have he := hp.1
  have hT := hZ.2.2.1.1
  have hG := hT.2.2.2.1
  have hG0 := hT.2.2.1
  refine wp_Top_mends ⟨by omega, by omega, by omega, ?_⟩
  rw [v0, if_neg (by omega)]
  by_cases q : e = 0
  · rw [if_neg (fun h => h q)]; exact hq0 q
  · rw [if_pos q]
    have loop : ∀ (d m : Nat) (s2 : jS), ((m : Nat) : Int) + ((d : Nat) : Int) = tG T → rq σ s2 → cZ s2 T M → J n c_Top_mends (some .int) 25 [some (jo 12 0), some (ji (meB O (fun i => wiE T (bAnd O (bXor (bShl 1 i) (-1))) U k M r) m)), some (ji ((m : Nat) : Int))] [] s2 (qI Q) := by
      intro d
      induction d with
      | zero =>
        intro m s2 hd e2 Z2
        have Z20 := Z2
        obtain ⟨z1, z2, ⟨p1, tx, p2, p3, p4, p5, p6, p7, p8, p9⟩, z4, z5, z6, z7⟩ := Z2
        refine wp_Top_mends_25 ⟨by omega, by omega, ?_⟩
        rw [p4, p6, if_pos (by omega)]
        have := hq1 q s2 e2 Z20
        rw [show (tG T).toNat = m by omega] at this
        exact this
      | succ d ih =>
        intro m s2 hd e2 Z2
        have Z20 := Z2
        obtain ⟨z1, z2, ⟨p1, tx, p2, p3, p4, p5, p6, p7, p8, p9⟩, z4, z5, z6, z7⟩ := Z2
        have A2 := aPc_gq hA (rq_gq e2) apL_r
        have o2 : rs s2 12009 0 = O := by rw [(rq_gq e2).nrs 12009 0 (by decide) (by unfold rFp askFp; omega)]; exact hO
        have u2 : rs s2 12010 0 = U := by rw [(rq_gq e2).nrs 12010 0 (by decide) (by unfold rFp askFp; omega)]; exact hU
        have e1 : meB O (fun i => wiE T (bAnd O (bXor (bShl 1 i) (-1))) U k M r) (m + 1) = if tb O ((m : Nat) : Int) = true ∧ wiE T (bAnd O (bXor (bShl 1 ((m : Nat) : Int)) (-1))) U k M r = 0 then bOr (meB O (fun i => wiE T (bAnd O (bXor (bShl 1 i) (-1))) U k M r) m) (bShl 1 ((m : Nat) : Int)) else meB O (fun i => wiE T (bAnd O (bXor (bShl 1 i) (-1))) U k M r) m := rfl
        refine wp_Top_mends_25 ⟨by omega, by omega, ?_⟩
        rw [p4, p6, if_neg (by omega), o2]
        refine ⟨by omega, c_isIn (by omega) (by omega) ?_⟩
        unfold has1
        by_cases qb : tb O ((m : Nat) : Int) = true
        · rw [if_pos qb, if_neg (by decide), cC_at z2 12007 0 0 (by decide), cC_at z2 12012 0 245 (by decide), A2.2.2.2.2, o2, u2]
          refine ⟨by omega, c_apart (by omega) Z20 ⟨hp.2.2.2.2.2.2.2.1, hp.2.2.2.2.2.2.2.2⟩ hp.2.2.2.2.2.2.1 A2.2.2.2.1 (fun s5 e5 Z5 => ?_)⟩
          have nx := ih (m + 1) s5 (by omega) (e2.tr e5) Z5
          rw [e1] at nx
          by_cases qv : wiE T (bAnd O (bXor (bShl 1 ((m : Nat) : Int)) (-1))) U k M r = 0
          · rw [if_pos ⟨qb, qv⟩] at nx
            rw [if_neg (fun h => h qv)]
            exact ⟨⟨by omega, by omega⟩, nx⟩
          · rw [if_neg (fun h => qv h.2)] at nx
            rw [if_pos qv]
            exact ⟨⟨by omega, by omega⟩, nx⟩
        · rw [if_neg qb, if_pos rfl]
          have nx := ih (m + 1) s2 (by omega) e2 Z20
          rw [e1, if_neg (fun h => qb h.1)] at nx
          exact ⟨⟨by omega, by omega⟩, nx⟩
    exact loop (tG T).toNat 0 σ (by omega) (rq.rf σ) hZ
theorem t_mends {Q : Int → jS → Prop} (hn : 30 ≤ n) (hm : mln σ) (hX : mTx σ T) (hMm : mMem σ M) (hA : aPm σ e s W a b c r k) (hp : aPp T e W c r k) (hO : rs σ 1015 0 = O) (hU : rs σ 1016 0 = U) (hq0 : e = 0 → Q (-1) σ) (hq1 : ¬ e = 0 → ∀ σ', sq ewF σ σ' → rs σ' 1015 0 = O → mMem σ' M → Q (meB O (fun i => wiE T (bAnd O (bXor (bShl 1 i) (-1))) U k M r) (tG T).toNat) σ') : TrI n i_Model_mends [jo 1 0] σ Q := by
  have l12 := mln_at hm 1112 9 (by decide)
  have v0 : ra σ 1112 0 0 = e := hA.2.1 0 (by omega)
  have hT := hX.1
  have hG := hT.2.2.2.1
  have hG0 := hT.2.2.1
  refine wp_Model_mends ⟨by omega, ?_⟩
  rw [hA.1, if_neg (by decide), l12, v0]
  refine ⟨by omega, by omega, ?_⟩
  by_cases q : e = 0
  · rw [if_neg (fun h => h q)]; exact hq0 q
  · rw [if_pos q]
    have loop : ∀ (d m : Nat) (s2 : jS), ((m : Nat) : Int) + ((d : Nat) : Int) = tG T → sq ewF σ s2 → rs s2 1015 0 = O → mMem s2 M → J n c_Model_mends (some .int) 22 [some (jo 1 0), some (ji (meB O (fun i => wiE T (bAnd O (bXor (bShl 1 i) (-1))) U k M r) m)), some (ji ((m : Nat) : Int))] [] s2 (qI Q) := by
      intro d
      induction d with
      | zero =>
        intro m s2 hd e2 o2 M2
        have X2 : mTx s2 T := hX.sq e2 (by decide)
        refine wp_Model_mends_22 ⟨by omega, ?_⟩
        rw [X2.2.2.1, if_pos (by omega)]
        have := hq1 q s2 e2 o2 M2
        rw [show (tG T).toNat = m by omega] at this
        exact this
      | succ d ih =>
        intro m s2 hd e2 o2 M2
        have X2 : mTx s2 T := hX.sq e2 (by decide)
        have A2 := aPm_sq hA e2 (by decide)
        have e1 : meB O (fun i => wiE T (bAnd O (bXor (bShl 1 i) (-1))) U k M r) (m + 1) = if tb O ((m : Nat) : Int) = true ∧ wiE T (bAnd O (bXor (bShl 1 ((m : Nat) : Int)) (-1))) U k M r = 0 then bOr (meB O (fun i => wiE T (bAnd O (bXor (bShl 1 i) (-1))) U k M r) m) (bShl 1 ((m : Nat) : Int)) else meB O (fun i => wiE T (bAnd O (bXor (bShl 1 i) (-1))) U k M r) m := rfl
        refine wp_Model_mends_22 ⟨by omega, ?_⟩
        rw [X2.2.2.1, if_neg (by omega), o2]
        refine ⟨by omega, t_has (by omega) (by omega) ?_⟩
        unfold has1
        by_cases qb : tb O ((m : Nat) : Int) = true
        · rw [if_pos qb, if_neg (by decide), o2]
          refine t_apart (n := n - 1) (O0 := O) (U := U) (by omega) (hm.sq e2) X2 M2 o2 (by rw [e2.nrs 1016 0 (by decide)]; exact hU) ⟨hp.2.2.2.2.2.2.2.1, hp.2.2.2.2.2.2.2.2⟩ hp.2.2.2.2.2.2.1 A2.2.2.2.2.2.2.1 A2.2.2.2.2.2.2.2.1 A2.2.2.2.2.2.2.2.2 (fun s5 e5 o5 M5 => ?_)
          have nx := ih (m + 1) s5 (by omega) (e2.tr e5) o5 M5
          rw [e1] at nx
          by_cases qv : wiE T (bAnd O (bXor (bShl 1 ((m : Nat) : Int)) (-1))) U k M r = 0
          · rw [if_pos ⟨qb, qv⟩] at nx
            rw [if_neg (fun h => h qv)]
            exact ⟨⟨by omega, by omega⟩, nx⟩
          · rw [if_neg (fun h => qv h.2)] at nx
            rw [if_pos qv, bOr_0 (meB_i _ _ _)]
            exact ⟨⟨by omega, by omega⟩, nx⟩
        · rw [if_neg qb, if_pos rfl]
          have nx := ih (m + 1) s2 (by omega) e2 o2 M2
          rw [e1, if_neg (fun h => qb h.1)] at nx
          exact ⟨⟨by omega, by omega⟩, nx⟩
    exact loop (tG T).toNat 0 σ (by omega) (sq.rf _ σ) hO hMm
end ZWj
