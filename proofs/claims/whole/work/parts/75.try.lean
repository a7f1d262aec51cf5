/-! A given one is tried: the class. -/
theorem memT_app {M M' : zM} {m : Nat} (h : m < M.length) : memT (M ++ M') m = memT M m := by
  unfold memT
  rw [List.getElem?_append_left h]
theorem expT_app {M M' : zM} : ∀ {t : List zI}, (∀ m : Nat, .inr m ∈ t → m < M.length) → expT (M ++ M') t = expT M t := by
  intro t
  induction t with
  | nil => intro _; rfl
  | cons i t ih =>
    intro h
    have ih := ih (fun m hm => h m (List.mem_cons_of_mem _ hm))
    unfold expT at ih ⊢
    rw [List.flatMap_cons, List.flatMap_cons, ih]
    cases i with
    | inl r => rfl
    | inr m =>
      show memT (M ++ M') m ++ _ = memT M m ++ _
      rw [memT_app (h m List.mem_cons_self)]
theorem expT_two (M : zM) (a b : List zI) : expT M (a ++ b) = expT M a ++ expT M b := List.flatMap_append
theorem zu_mono {g g' : zH} {N N' : Int} (h : agr g g' N) (hN : N ≤ N') (h0 : 0 ≤ N) : zu g N ≤ zu g' N' := by
  have key : ∀ j : Nat, zu g' N ≤ zu g' (N + (j : Nat)) := by
    intro j
    induction j with
    | zero => rw [show N + ((0 : Nat) : Int) = N by omega]; exact Nat.le_refl _
    | succ j ih =>
      rw [show N + ((j + 1 : Nat) : Int) = N + (j : Nat) + 1 by omega]
      refine Nat.le_trans ih ?_
      unfold zu
      rw [zrg_s (show (0 : Int) ≤ N + (j : Nat) by omega), cnt_app]
      omega
  obtain ⟨j, hj⟩ := Int.eq_ofNat_of_zero_le (show 0 ≤ N' - N by omega)
  have := key j
  rw [show N + ((j : Nat) : Int) = N' by omega, zu_cong h] at this
  exact this
section ZTr
variable {n : Nat} {σ : jS} {P : zP} {s : zS} {path β : List (Int × Int)} {k x me : Int} {ask : zS → Int → zS × zQ}
theorem nOk.gon {s s' : zS} {d : Int} (h : nOk s) (g : gon s s' d) (hp : pot s + d ≤ 200) : nOk s' := by
  obtain ⟨h1, h2, h3, h4, h5, h6, h7, h8, h9⟩ := h
  obtain ⟨a1, a2, a3, a4, a5, a6, a7, a8, a9, a10, a11⟩ := g
  exact ⟨by omega, a2, by omega, by omega, by omega, by omega, by omega, by omega, a9 h9⟩
def tslots (me : Int) (i : Nat) : List (Int × Int) := (List.range i).map (fun j : Nat => (me, (j : Int)))
theorem tslots_s (me : Int) (i : Nat) : tslots me (i + 1) = tslots me i ++ [(me, (i : Int))] := by
  unfold tslots
  rw [List.range_succ, List.map_append]
  rfl
set_option maxRecDepth 8000 in
theorem c_try49 {Q : Int → jS → Prop} (hn : 2 ≤ n) (hask : askC P (n - 1) ask (path ++ [(k, x)])) (hR : ∀ s y, gok s → 0 ≤ y → y < hN s → askR s (ask s y) 0 0 0) (hT : tok P.1) (k0 : 0 ≤ k) (k1 : k < tG P.1) (hd : path.length < 20) (h0 : nOk s) (hp0 : pot s ≤ 199) (hpath : ∀ p, p ∈ path ++ [(k, x)] → 0 ≤ p.2 ∧ p.2 < hN s) (hgs : gok s) (htop : 0 ≤ rs σ 6000 1) (hsv : rs σ 9002 0 ≤ 2 * (100 * (((path.length : Nat) : Int) + 1) + zu (hG s) (hN s)))
    (hq : ∀ v σ', aPost P σ σ' s path β x (tslots me (layGv P.1 k (hG s) (hN s)).2.2.2.length) (spTry P ask k x s) → (v = match (spTry P ask k x s).2.2.1 with
      | none => 0
      | some t => ((expT (sM (spTry P ask k x s).1) t).length : Int) + 1) → Q v σ') :
    ∀ (j i : Nat) (s1 : zS) (acc : List zI) (new : List (Int × Int)) (σ1 : jS), i + j = (layGv P.1 k (hG s) (hN s)).2.2.2.length → spNeeds ask ((layGv P.1 k (hG s) (hN s)).2.2.2.drop i) s1 acc = spNeeds ask (layGv P.1 k (hG s) (hN s)).2.2.2 (spLay P.1 k x s) [] → cB σ1 P s1 (path ++ [(k, x)]) → cH σ1 s1 (new ++ β) → gon s s1 1 → rs σ1 7017 0 = 0 → aq σ σ1 → (rs σ1 9002 0 = rs σ 9002 0 ∧ ∀ i, 0 ≤ i → i < rs σ 9002 0 → ra σ1 9007 0 i = ra σ 9007 0 i) → (∀ z : Int, z < 4 * ((path.length : Nat) : Int) → ra σ1 7012 0 z = ra σ 7012 0 z) → (∀ i' : Nat, i ≤ i' → i' < (layGv P.1 k (hG s) (hN s)).2.2.2.length → ra σ1 7012 0 (4 * (path.length : Nat) + i') = (layGv P.1 k (hG s) (hN s)).2.2.2.getD i' 0) → (rs σ 6000 1 ≤ rs σ1 6000 1 ∧ ∀ i, 0 ≤ i → i < rs σ 6000 1 * 8 → ra σ1 6001 1 i = ra σ 6001 1 i) → agr (hG s) (hG s1) (hN s) → hN s ≤ hN s1 → (layGv P.1 k (hG s) (hN s)).2.1 ≤ hN s1 → (∀ K : Int → Prop, (∀ m, hN s ≤ m → K m) → eclo (hG s) (hN s) β K → K x → (∀ p, p ∈ new → K p.1 ∧ K p.2) ∧ eclo (hG s1) (hN s1) (new ++ β) K) → planS σ1 (rs σ 6000 1) (tslots me i) acc → rs σ1 6000 1 = rs σ 6000 1 + (acc.length : Nat) → rdA (acc.map arI) i = some [] → (∀ m : Nat, .inr m ∈ acc → m < (sM s1).length) → hN s1 ≤ 12 + 120 * sA s1 → (zu (hG s1) (hN s1) : Int) ≤ 12 + 52 * sA s1 → (expT (sM s1) acc).length ≤ 200 * i →
      J n c_Search_tryGiven (some .int) 49 [some (jo 7 0), some (ji k), none, some (ji (path.length : Nat)), some (ji me), some (ji (((expT (sM s1) acc).length : Nat) + 1)), some (ji (i : Nat)), none] [] σ1 (qI Q) := by
  have hlen := (lgv_ok hT k0 k1 hgs.1 hgs.2.1).2.2.2.2.2.2.1
  have hnd := hT.2.2.2.2.2 k k0 k1
  have hfr := lgv_fresh hT k0 k1 hgs.1 hgs.2.1
  have hrg := (lgv_ok hT k0 k1 hgs.1 hgs.2.1).2.2.2.2.2.2.2
  have hG24 := hT.2.2.2.1
  have hlp : (path ++ [(k, x)]).length = path.length + 1 := by simp
  intro j
  induction j with
  | zero =>
    intro i s1 acc new σ1 hi hsp b1 b2 b3 b4 b5 b6 b7 b8 b9 b10 b11 b12 b13 b14 b15 b16 b17 b18 b19 b20
    have hdr : (layGv P.1 k (hG s) (hN s)).2.2.2.drop i = [] := List.drop_eq_nil_of_le (by omega)
    rw [hdr] at hsp
    have hsp2 : spNeeds ask (layGv P.1 k (hG s) (hN s)).2.2.2 (spLay P.1 k x s) [] = (s1, 0, some acc, noQ) := hsp.symm
    obtain ⟨-, tx, h2, h3, h4, h5, h6, h7, h8, h9⟩ := b1.2.2.1
    have l6 : rl σ1 10006 tx = 24 := by
      rcases h2 with w | w
      · rw [w]; exact cln_at b1.1 10006 0 24 (by decide)
      · rw [w]; exact cln_at b1.1 10006 1 24 (by decide)
    refine wp_Search_tryGiven_49 ⟨by omega, by omega, by omega, ?_⟩
    rw [h3]
    refine wp_Text_needsOf ⟨by omega, by omega, c_hasGiven (by omega) h6 hT ?_⟩
    rw [show (if 0 ≤ k ∧ k < tG P.1 then (1 : Int) else 0) = 1 from if_pos ⟨k0, k1⟩, if_neg (by decide), (h9 k k0 k1).2.1]
    refine ⟨by omega, k0, by omega, ?_⟩
    rw [if_pos (by omega)]
    have hst : spTry P ask k x s = if 200 < (expT (sM s1) acc).length + 1 then (s1, 6, none, noQ) else (s1, 0, some acc, noQ) := by
      unfold spTry
      rw [hsp2]
    have ei : i = (layGv P.1 k (hG s) (hN s)).2.2.2.length := by omega
    rcases Nat.lt_or_ge 200 ((expT (sM s1) acc).length + 1) with q | q
    rotate_left
    · rw [if_pos (by omega)]
      rw [if_neg (by omega)] at hst
      refine hq _ σ1 ?_ (by rw [hst])
      rw [hst, ← ei]
      refine ⟨b5, cB_pre b1, b4, fun _ => b6, b7, b9, ⟨new, hG s1, hN s1, b2.1, b10, b11, fun t ht => ?_⟩, fun w => absurd w (by show ¬ (0 : Int) = 2; decide)⟩
      have e : acc = t := by
        have : some acc = some t := ht
        cases this; rfl
      subst e
      refine ⟨rfl, rfl, b2.2.1, b13, b14, b15, ?_, b17⟩
      have : (tslots me i).length = i := by unfold tslots; simp
      rw [this]; exact b16
    · rw [if_neg (by omega)]
      rw [if_pos (by omega)] at hst
      intro zs6 e6
      have f6 : sq [(7017, 0)] σ1 zs6 := by rw [e6]; exact (sq.rf _ σ1).pws 7017 0 _ (by decide)
      have g6 := f6.cq (l' := [(7017, 0)]) (by decide)
      refine hq _ zs6 ?_ (by rw [hst])
      rw [hst]
      refine ⟨b5.tr (g6.aq (fun p hp => by
        have : p = (7017, 0) := by simpa using hp
        rw [this]; unfold askFp; simp)), (cB_pre b1).cq g6 (by decide) (by decide) (by decide) (by decide), by rw [e6, rs_ws, if_pos ⟨rfl, rfl⟩], fun w => absurd w (by show ¬ (6 : Int) = 0; decide), fun z hz => by rw [f6.nra 7012 0 z (by decide)]; exact b7 z hz, ⟨by rw [f6.nrs 6000 1 (by decide)]; exact b9.1, fun z z0 z1 => by rw [f6.nra 6001 1 z (by decide)]; exact b9.2 z z0 z1⟩, ⟨new, hG s1, hN s1, b2.1.sq f6 (by decide), b10, b11, fun t ht => (by cases ht)⟩, fun w => absurd w (by show ¬ (6 : Int) = 2; decide)⟩
  | succ j ih =>
    intro i s1 acc new σ1 hi hsp b1 b2 b3 b4 b5 b6 b7 b8 b9 b10 b11 b12 b13 b14 b15 b16 b17 b18 b19 b20
    have hin : i < (layGv P.1 k (hG s) (hN s)).2.2.2.length := by omega
    have hdr : (layGv P.1 k (hG s) (hN s)).2.2.2.drop i = (layGv P.1 k (hG s) (hN s)).2.2.2[i] :: (layGv P.1 k (hG s) (hN s)).2.2.2.drop (i + 1) := List.drop_eq_getElem_cons hin
    have hget : (layGv P.1 k (hG s) (hN s)).2.2.2.getD i 0 = (layGv P.1 k (hG s) (hN s)).2.2.2[i] := by
      show ((layGv P.1 k (hG s) (hN s)).2.2.2[i]?).getD 0 = _
      rw [List.getElem?_eq_getElem hin]
      rfl
    have hmem := List.getElem_mem hin
    have hy := hrg _ hmem
    have hyf := hfr.2.2 _ hmem
    have hneed := b8 i (Nat.le_refl _) hin
    rw [hget] at hneed
    generalize hyy : (layGv P.1 k (hG s) (hN s)).2.2.2[i] = y at hdr hy hyf hneed
    rw [hdr] at hsp
    obtain ⟨-, tx, h2, h3, h4, h5, h6, h7, h8, h9⟩ := b1.2.2.1
    have l6 : rl σ1 10006 tx = 24 := by
      rcases h2 with w | w
      · rw [w]; exact cln_at b1.1 10006 0 24 (by decide)
      · rw [w]; exact cln_at b1.1 10006 1 24 (by decide)
    have l12 := cln_at b1.1 7012 0 80 (by decide)
    have hzm := zu_mono b10 b11 hgs.2.1
    have hnd4 := hnd.2.2.2.1
    refine wp_Search_tryGiven_49 ⟨by omega, by omega, by omega, ?_⟩
    rw [h3]
    refine wp_Text_needsOf ⟨by omega, by omega, c_hasGiven (by omega) h6 hT ?_⟩
    rw [show (if 0 ≤ k ∧ k < tG P.1 then (1 : Int) else 0) = 1 from if_pos ⟨k0, k1⟩, if_neg (by decide), (h9 k k0 k1).2.1]
    refine ⟨by omega, k0, by omega, ?_⟩
    rw [if_neg (by omega)]
    have hne : ra σ1 7012 0 (((path.length : Nat) : Int) * 4 + (i : Nat)) = y := by rw [← hneed]; congr 1; omega
    rw [hne, show ((path.length : Nat) : Int) + 1 = ((path ++ [(k, x)]).length : Nat) by rw [hlp]; omega]
    refine ⟨by omega, ⟨by omega, by omega⟩, ⟨by omega, by omega⟩, by omega, by omega, ⟨by omega, by rw [hlp]; omega⟩, ?_⟩
    have hy1 : y < hN s1 := by omega
    refine hask s1 y me (i : Nat) (new ++ β) σ1 _ b1 b2 (h0.gon b3 (by omega)) b4 hy.1 hy1 b18 b19 (by rw [b6.1, hlp]; omega) (fun p hp => by
      have := hpath p hp
      omega) (fun v σ2 hpost hv hpos => ?_)
    obtain ⟨c1, c2, c3, c4, c5, c6, ⟨new2, g2, N2, d1, d2, d3, d4⟩, c8⟩ := hpost
    have hRs := hR s1 y b2.2.2 hy.1 hy1
    obtain ⟨e1, e2, e3, e4⟩ := hRs
    -- what is so in any case
    have sv2 : (ask s1 y).2.1 = 0 → rs σ2 9002 0 = rs σ 9002 0 ∧ ∀ i, 0 ≤ i → i < rs σ 9002 0 → ra σ2 9007 0 i = ra σ 9007 0 i := fun w => ⟨(c4 w).1.trans b6.1, fun z z0 z1 => ((c4 w).2 z z0 (by rw [b6.1]; exact z1)).trans (b6.2 z z0 z1)⟩
    have nd2 : ∀ z, z < 4 * ((path.length : Nat) : Int) → ra σ2 7012 0 z = ra σ 7012 0 z := fun z hz => (c5 z (by rw [hlp]; omega)).trans (b7 z hz)
    have pl2 : rs σ 6000 1 ≤ rs σ2 6000 1 ∧ ∀ i, 0 ≤ i → i < rs σ 6000 1 * 8 → ra σ2 6001 1 i = ra σ 6001 1 i := ⟨Int.le_trans b9.1 c6.1, fun z z0 z1 => (c6.2 z z0 (by have := b9.1; omega)).trans (b9.2 z z0 z1)⟩
    have ag2 : agr (hG s) g2 (hN s) := b10.tr d2 b11
    cases hc : (ask s1 y).2.2.1 with
    | none =>
      rw [hc] at hv
      have hv0 : v = 0 := hv
      rw [if_neg (by omega)]
      have hsp2 : spNeeds ask (layGv P.1 k (hG s) (hN s)).2.2.2 (spLay P.1 k x s) [] = ((ask s1 y).1, (ask s1 y).2.1, none, (ask s1 y).2.2.2) := by
        rw [← hsp]
        show (match (ask s1 y).2.2.1 with
          | none => ((ask s1 y).1, (ask s1 y).2.1, none, (ask s1 y).2.2.2)
          | some t => spNeeds ask _ (ask s1 y).1 (acc ++ t)) = _
        rw [hc]
      have hst : spTry P ask k x s = ((ask s1 y).1, (ask s1 y).2.1, none, (ask s1 y).2.2.2) := by
        unfold spTry
        rw [hsp2]
      refine hq 0 σ2 ?_ (by rw [hst])
      rw [hst]
      exact ⟨b5.tr c1, cB_pre c2, c3, sv2, nd2, pl2, ⟨new2 ++ new, g2, N2, by rw [List.append_assoc]; exact d1, ag2, by omega, fun t ht => (by cases ht)⟩, c8⟩
    | some t =>
      rw [hc] at hv
      obtain ⟨hp1, hp2⟩ := hpos t hc
      obtain ⟨f1, f2, f3, f4, f5, f6, f7, f8⟩ := d4 t hc
      obtain ⟨r1, r2, r3, r4, r5, r6⟩ := e4 t hc
      subst f1 f2
      have hv0 : v = ((expT (sM (ask s1 y).1) t).length : Int) := hv
      rw [if_pos (by omega)]
      have hst0 : (ask s1 y).2.1 = 0 := by
        by_cases w : (ask s1 y).2.1 = 0
        · exact w
        · have := e3 w
          rw [hc] at this
          cases this
      obtain ⟨M, hM⟩ := e1.2.2.2.2.2.2.2.2.2.2
      have hex : expT (sM (ask s1 y).1) (acc ++ t) = expT (sM s1) acc ++ expT (sM (ask s1 y).1) t := by
        rw [expT_two]
        congr 1
        rw [hM]
        exact expT_app b17
      have hexl : (expT (sM (ask s1 y).1) (acc ++ t)).length = (expT (sM s1) acc).length + (expT (sM (ask s1 y).1) t).length := by rw [hex, List.length_append]
      have hi4 : i < 4 := by omega
      refine ⟨⟨by omega, by omega⟩, ⟨by omega, by omega⟩, ?_⟩
      have hml : (sM s1).length ≤ (sM (ask s1 y).1).length := by rw [hM, List.length_append]; omega
      have htl : (tslots me i).length = i := by unfold tslots; simp
      have hgk : gok (ask s1 y).1 := ⟨r1, by have := b2.2.2.2.1; omega, r4, e1.2.1⟩
      have hsp2 : spNeeds ask ((layGv P.1 k (hG s) (hN s)).2.2.2.drop (i + 1)) (ask s1 y).1 (acc ++ t) = spNeeds ask (layGv P.1 k (hG s) (hN s)).2.2.2 (spLay P.1 k x s) [] := by
        rw [← hsp]
        show _ = (match (ask s1 y).2.2.1 with
          | none => ((ask s1 y).1, (ask s1 y).2.1, none, (ask s1 y).2.2.2)
          | some t => spNeeds ask _ (ask s1 y).1 (acc ++ t))
        rw [hc]
      have := ih (i + 1) (ask s1 y).1 (acc ++ t) (new2 ++ new) σ2 (by omega) hsp2 c2 ⟨by rw [List.append_assoc]; exact d1, by rw [List.append_assoc]; exact f3, hgk⟩ ((b3.tr e1).mo (by omega)) (by rw [c3]; exact hst0) (b5.tr c1) (sv2 hst0) nd2 (fun i' h1 h2' => by
          rw [c5 _ (by rw [hlp]; omega)]
          exact b8 i' (by omega) h2') pl2 ag2 (by omega) (by omega) (fun K k1' k2' k3' => ?_) ?_ ?_ ?_ (fun m hm => ?_) (by omega) (by omega) (by omega)
      · rw [show ((path ++ [(k, x)]).length : Int) = ((path.length : Nat) : Int) + 1 by rw [hlp]; omega] at *
        rw [hexl] at this
        rw [hv0, show (((expT (sM s1) acc).length : Nat) : Int) + 1 + ((expT (sM (ask s1 y).1) t).length : Nat) = (((expT (sM s1) acc).length + (expT (sM (ask s1 y).1) t).length : Nat) : Int) + 1 by omega, show ((i : Nat) : Int) + 1 = ((i + 1 : Nat) : Int) by omega]
        exact this
      · obtain ⟨m1, m2⟩ := b13 K k1' k2' k3'
        obtain ⟨m3, m4⟩ := f4 K (fun m hm => k1' m (by omega)) m2 (k1' y hyf)
        refine ⟨fun p hp => ?_, by rw [List.append_assoc]; exact m4⟩
        rcases List.mem_append.mp hp with w | w
        · exact m3 p w
        · exact m1 p w
      · rw [tslots_s]
        refine (planS_app (by rw [htl]; exact b16)).mpr ⟨planS_cong (fun z z0 z1 => c6.2 z (by have := b1.2.2.2.2.2.2.2.1.1; have := b9.1; omega) (by rw [b15]; exact z1)) b14, ?_⟩
        rw [← b15]
        exact f5
      · rw [f6, b15, List.length_append]; omega
      · rw [List.map_append]
        have := rdA_app (m := t.map arI) b16 1
        rw [this]
        exact f7
      · rcases List.mem_append.mp hm with w | w
        · exact Nat.lt_of_lt_of_le (b17 m w) hml
        · exact f8 m w
end ZTr
