/-! What the search finds stands on nodes of its own; what is kept stays as it is. -/
def nGl (z : zN) : Int := z.2.2.2.2.2.2.1
def nRw (z : zN) : Option (List Int) := z.2.2.2.2.2.2.2
theorem memT_ne2 {M M' : zM} {m : Nat} (h : ¬ memT M m = []) : m < M.length ∧ memT (M ++ M') m = memT M m := by
  have hm : m < M.length := by
    rcases Nat.lt_or_ge m M.length with q | q
    · exact q
    · refine absurd ?_ h
      unfold memT
      rw [List.getElem?_eq_none q]
      rfl
  refine ⟨hm, ?_⟩
  unfold memT
  rw [List.getElem?_append_left hm]
/-- the tree's nodes, of those from L on or such; what is kept of them stays as it is, whatever is done with nodes below H -/
def trI (L H : Int) (Y : Int → Prop) (s : zS) (t : List zI) : Prop := (∀ m : Nat, .inr m ∈ t → ¬ memT (sM s) m = []) ∧ ∀ z : zN, .inl z ∈ t → (Y (nGl z) ∨ L ≤ nGl z) ∧ 0 ≤ nGl z ∧ nGl z < hN s ∧ ∀ r, nRw z = some r → frz H (hG s) (hN s) (hE s) (nGl z) r
def repI (s : zS) : Prop := ∃ β, rep (hG s) (hN s) β (hE s)
def stpI (s s' : zS) (Y : Int → Prop) : Prop := stepE (hG s) (hN s) (hE s) (hG s') (hN s') (hE s') Y
def resI (s : zS) (y : Int) (R : zS × zQ) : Prop := ∀ t, R.2.2.1 = some t → repI R.1 ∧ stpI s R.1 (fun v => v = y) ∧ trI (hN s) (hN s) (fun v => v = y) R.1 t
def askI (ask : zS → Int → zS × zQ) : Prop := ∀ s y, gok s → repI s → 0 ≤ y → y < hN s → resI s y (ask s y)
section ZRI
variable {P : zP} {s s1 s2 B : zS} {x y k L H : Int} {t t' : List zI} {Y Y' : Int → Prop}
theorem stpI.rf (hz : zok (hG s) (hN s)) : stpI s s Y := ⟨hz, Int.le_refl _, agr.rf _ _, fun m m0 m1 => absurd m1 (by omega), [], rfl, fun p hp => by cases hp⟩
theorem stpI.tr (h : stpI s s1 Y) (h0 : 0 ≤ hN s) (h' : stpI s1 s2 Y') (hY : ∀ v, Y' v → Y v ∨ hN s ≤ v) : stpI s s2 Y := by
  obtain ⟨a1, a2, a3, a4, D, a5, a6⟩ := h
  obtain ⟨b1, b2, b3, b4, D', b5, b6⟩ := h'
  refine ⟨b1, by omega, a3.tr b3 a2, fun m m0 m1 q hq => ?_, D' ++ D, by rw [b5, a5, List.append_assoc], fun p hp => ?_⟩
  · rcases Int.lt_or_le m (hN s1) with w | w
    · obtain ⟨d1, d2⟩ := b3 m (by omega) w
      rw [d2 q]
      exact a4 m m0 w q (by rw [← d1]; exact hq)
    · have := b4 m w m1 q hq
      omega
  · rcases List.mem_append.mp hp with w | w
    · obtain ⟨⟨c1, c2⟩, c3, c4, c5⟩ := b6 p w
      refine ⟨⟨by omega, c2⟩, ?_, c4, c5⟩
      rcases c3 with c3 | c3
      · exact hY _ c3
      · exact Or.inr (by omega)
    · obtain ⟨⟨c1, c2⟩, c3, c4, c5⟩ := a6 p w
      exact ⟨⟨c1, by omega⟩, c3, c4, by omega⟩
theorem trI.st {M : zM} (h : trI L H Y s t) (hz : zok (hG s) (hN s)) (hr : repI s) (hr1 : repI s1) (st : stpI s s1 Y') (hY : ∀ v, Y' v → v < H) (hM : sM s1 = sM s ++ M) : trI L H Y s1 t := by
  obtain ⟨h1, h2⟩ := h
  obtain ⟨β, hr⟩ := hr
  obtain ⟨β1, hr1⟩ := hr1
  refine ⟨fun m hm => ?_, fun z hzm => ?_⟩
  · rw [hM, (memT_ne2 (h1 m hm)).2]
    exact h1 m hm
  · obtain ⟨c1, c2, c3, c4⟩ := h2 z hzm
    have := st.2.1
    exact ⟨c1, c2, by omega, fun r hr2 => frz_step hz hr hr1 st hY (c4 r hr2)⟩
theorem trI.mo {L' H' : Int} (h : trI L H Y s t) (hL : ∀ v, (Y v ∨ L ≤ v) → (Y' v ∨ L' ≤ v)) (hH : H' ≤ H) : trI L' H' Y' s t := ⟨h.1, fun z hz => by
  obtain ⟨c1, c2, c3, c4⟩ := h.2 z hz
  exact ⟨hL _ c1, c2, c3, fun r hr => (c4 r hr).mono hH⟩⟩
theorem trI.ap (h : trI L H Y s t) (h' : trI L H Y s t') : trI L H Y s (t ++ t') := ⟨fun m hm => (List.mem_append.mp hm).elim (h.1 m) (h'.1 m), fun z hz => (List.mem_append.mp hz).elim (h.2 z) (h'.2 z)⟩
theorem needs_I {ask : zS → Int → zS × zQ} (hR : ∀ s y, gok s → 0 ≤ y → y < hN s → askR s (ask s y) 0 0 0) (hI : askI ask) : ∀ (ys : List Int) (s : zS) (acc : List zI), gok s → repI s → L ≤ H → H ≤ hN s → (∀ y, y ∈ ys → 0 ≤ y ∧ L ≤ y ∧ y < H) → trI L H (fun _ => False) s acc → ∀ t, (spNeeds ask ys s acc).2.2.1 = some t → repI (spNeeds ask ys s acc).1 ∧ stpI s (spNeeds ask ys s acc).1 (fun v => L ≤ v ∧ v < H) ∧ trI L H (fun _ => False) (spNeeds ask ys s acc).1 t := by
  intro ys
  induction ys with
  | nil =>
    intro s acc h hr hLH hH hy hacc t ht
    have e : acc = t := Option.some.inj ht
    rw [← e]
    exact ⟨hr, stpI.rf h.1, hacc⟩
  | cons y ys ih =>
    intro s acc h hr hLH hH hy hacc t ht
    obtain ⟨y0, y1, y2⟩ := hy y List.mem_cons_self
    unfold spNeeds at ht ⊢
    have hk := hR s y h y0 (by omega)
    have hi := hI s y h hr y0 (by omega)
    cases hc : (ask s y).2.2.1 with
    | none => rw [hc] at ht; cases ht
    | some t1 =>
      rw [hc] at ht
      dsimp only at ht ⊢
      obtain ⟨r1, r2, r3⟩ := hi t1 hc
      have hg := hk.2.2.2 t1 hc
      have hgk : gok (ask s y).1 := ⟨hg.1, by have := hg.2.1; have := h.2.1; omega, hg.2.2.2.1, hk.1.2.1⟩
      obtain ⟨M, hM⟩ := hk.1.2.2.2.2.2.2.2.2.2.2
      have hNle := r2.2.1
      have hacc1 : trI L H (fun _ => False) (ask s y).1 acc := hacc.st h.1 hr r1 r2 (fun v hv => by rw [hv]; exact y2) hM
      have ht1 : trI L H (fun _ => False) (ask s y).1 t1 := r3.mo (fun v hv => Or.inr (by rcases hv with w | w <;> omega)) hH
      obtain ⟨c1, c2, c3⟩ := ih (ask s y).1 (acc ++ t1) hgk r1 hLH (by omega) (fun z hz => hy z (List.mem_cons_of_mem _ hz)) (hacc1.ap ht1) t ht
      refine ⟨c1, ?_, c3⟩
      have r2' : stpI s (ask s y).1 (fun v => L ≤ v ∧ v < H) := by
        obtain ⟨a1, a2, a3, a4, D, a5, a6⟩ := r2
        refine ⟨a1, a2, a3, a4, D, a5, fun p hp => ?_⟩
        obtain ⟨d1, d2, d3⟩ := a6 p hp
        exact ⟨d1, d2.elim (fun w => Or.inl (by rw [w]; exact ⟨y1, y2⟩)) Or.inr, d3⟩
      exact r2'.tr h.2.1 c2 (fun v hv => Or.inl hv)
/-- a given one is laid, its RESULT made one with the goal -/
theorem lay_I (hT : tok P.1) (h : gok s) (hr : repI s) (k0 : 0 ≤ k) (k1 : k < tG P.1) (x0 : 0 ≤ x) (x1 : x < hN s) (hcan : ∃ ρ, solE (hG s) (hN s) (hE s) ρ ∧ ∃ θ : Int → List Int, (∀ v, Typ (θ v)) ∧ sbt θ (tR P.1 k 0) = ρ x) : gok (spLay P.1 k x s) ∧ repI (spLay P.1 k x s) ∧ stpI s (spLay P.1 k x s) (fun v => v = x) ∧ ∀ y, y ∈ (layGv P.1 k (hG s) (hN s)).2.2.2 → 0 ≤ y ∧ hN s ≤ y ∧ y < hN (spLay P.1 k x s) := by
  obtain ⟨l1, l2, l3, l4, l5, l6, l7, l8⟩ := lgv_ok (T := P.1) hT k0 k1 h.1 h.2.1
  obtain ⟨f1, f2, f3⟩ := lgv_fresh (T := P.1) hT k0 k1 h.1 h.2.1
  obtain ⟨ρ, u1, u2⟩ := lgv_uni (T := P.1) (E := hE s) hT k0 k1 h.1 h.2.1 h.2.2.1 x0 x1 hcan
  have hgl : gok (spLay P.1 k x s) := by
    refine ⟨l4, Int.le_trans h.2.1 l1, fun p hp => ?_, h.2.2.2⟩
    rcases List.mem_cons.mp hp with w | w
    · rw [w]
      exact ⟨⟨l6.1, l6.2⟩, x0, Int.lt_of_lt_of_le x1 l1⟩
    · exact eok_mono h.2.2.1 l1 p w
  obtain ⟨β, hr⟩ := hr
  have hr2 := rep_ext l3 l1 h.1 l4 h.2.2.1 hr
  refine ⟨hgl, uni_rep l4 hr2 l6.1 l6.2 x0 (Int.lt_of_lt_of_le x1 l1) ⟨ρ, u1, u2⟩, ⟨l4, l1, l3, f1, [((layGv P.1 k (hG s) (hN s)).2.2.1, x)], rfl, fun p hp => ?_⟩, fun y hy => ⟨(l8 y hy).1, f3 y hy, (l8 y hy).2⟩⟩
  have e : p = ((layGv P.1 k (hG s) (hN s)).2.2.1, x) := by simpa using hp
  rw [e]
  exact ⟨⟨f2, l6.2⟩, Or.inl rfl, x0, Int.lt_of_lt_of_le x1 l1⟩
theorem try_I {ask : zS → Int → zS × zQ} (hT : tok P.1) (hR : ∀ s y, gok s → 0 ≤ y → y < hN s → askR s (ask s y) 0 0 0) (hI : askI ask) (h : gok s) (hr : repI s) (k0 : 0 ≤ k) (k1 : k < tG P.1) (x0 : 0 ≤ x) (x1 : x < hN s) (hcan : ∃ ρ, solE (hG s) (hN s) (hE s) ρ ∧ ∃ θ : Int → List Int, (∀ v, Typ (θ v)) ∧ sbt θ (tR P.1 k 0) = ρ x) : ∀ t, (spTry P ask k x s).2.2.1 = some t → repI (spTry P ask k x s).1 ∧ stpI s (spTry P ask k x s).1 (fun v => v = x) ∧ trI (hN s) (hN s) (fun _ => False) (spTry P ask k x s).1 t := by
  obtain ⟨a1, a2, a3, a4⟩ := lay_I hT h hr k0 k1 x0 x1 hcan
  have hlay := a3.2.1
  have key := needs_I (L := hN s) (H := hN (spLay P.1 k x s)) hR hI (layGv P.1 k (hG s) (hN s)).2.2.2 (spLay P.1 k x s) [] a1 a2 hlay (Int.le_refl _) a4 ⟨fun m hm => (by cases hm), fun z hz => (by cases hz)⟩
  unfold spTry
  cases hc : (spNeeds ask (layGv P.1 k (hG s) (hN s)).2.2.2 (spLay P.1 k x s) []).2.2.1 with
  | none =>
    intro t ht
    dsimp only at ht
    rw [hc] at ht
    cases ht
  | some t1 =>
    intro t ht
    dsimp only at ht ⊢
    split at ht
    · cases ht
    · rename_i hq
      rw [if_neg hq]
      obtain ⟨c1, c2, c3⟩ := key t ht
      exact ⟨c1, a3.tr h.2.1 c2 (fun v hv => Or.inr hv.1), c3.mo (fun v hv => hv) hlay⟩
end ZRI
