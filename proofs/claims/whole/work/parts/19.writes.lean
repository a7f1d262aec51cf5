/-! Rows of runs told by numbers: writing fields and rows, making, calls. -/
theorem ax_nf_le (k : Nat) : ax_nf k ≤ 1000 := by
  unfold ax_nf
  split
  · rename_i q h
    have h2 : ax_cl.all (fun q => decide (q.2.2 ≤ 1000)) = true := by decide +kernel
    exact of_decide_eq_true (List.all_eq_true.mp h2 q (List.mem_of_getElem? h))
  · exact Nat.zero_le _
theorem jfv_ne {d : jD} {σ σ1 : jS} {F : Nat} {o : Int} (h1 : rs σ1 F o = rs σ F o) (h2 : rl σ1 F o = rl σ F o) : jfv d σ1 F o = jfv d σ F o := by
  unfold jfv
  split <;> simp only [h1, h2]
theorem rs_ws (σ : jS) (F : Nat) (o v : Int) (F' : Nat) (o' : Int) : rs (ws σ F o v) F' o' = if F' = F ∧ o' = o then v else rs σ F' o' := rfl
theorem ra_ws (σ : jS) (F : Nat) (o v : Int) (F' : Nat) (o' i : Int) : ra (ws σ F o v) F' o' i = ra σ F' o' i := rfl
theorem rl_ws (σ : jS) (F : Nat) (o v : Int) (F' : Nat) (o' : Int) : rl (ws σ F o v) F' o' = rl σ F' o' := rfl
theorem rk_ws (σ : jS) (F : Nat) (o v : Int) (k : Nat) : rk (ws σ F o v) k = rk σ k := rfl
theorem rc_ws (σ : jS) (F : Nat) (o v : Int) : rc (ws σ F o v) = rc σ := rfl
theorem rz_ws (σ : jS) (F : Nat) (o v : Int) : rz (ws σ F o v) = rz σ := rfl
theorem rs_wA (σ : jS) (F : Nat) (o : Int) (g : Int → Int) (F' : Nat) (o' : Int) : rs (wA σ F o g) F' o' = rs σ F' o' := rfl
theorem ra_wA (σ : jS) (F : Nat) (o : Int) (g : Int → Int) (F' : Nat) (o' i : Int) : ra (wA σ F o g) F' o' i = (if F' = F ∧ o' = o then g else ra σ F' o') i := rfl
theorem raf_wA (σ : jS) (F : Nat) (o : Int) (g : Int → Int) (F' : Nat) (o' : Int) : ra (wA σ F o g) F' o' = if F' = F ∧ o' = o then g else ra σ F' o' := rfl
theorem rl_wA (σ : jS) (F : Nat) (o : Int) (g : Int → Int) (F' : Nat) (o' : Int) : rl (wA σ F o g) F' o' = rl σ F' o' := rfl
theorem rk_wA (σ : jS) (F : Nat) (o : Int) (g : Int → Int) (k : Nat) : rk (wA σ F o g) k = rk σ k := rfl
theorem rc_wA (σ : jS) (F : Nat) (o : Int) (g : Int → Int) : rc (wA σ F o g) = rc σ := rfl
theorem rz_wA (σ : jS) (F : Nat) (o : Int) (g : Int → Int) : rz (wA σ F o g) = rz σ := rfl
theorem jVw_put {d : jD} {σ : jS} {H : ax_H} (V : jVw d σ H) {ci kf G : Nat} {x y : Int} (hG : 1000 * ci + kf = G) (hkf : kf < ax_nf ci) (h0 : 0 ≤ x) (hx : x < rk σ ci) {g : Nat → Value} (hg : H.2.2 (d.1 ci x) = .inr (ci, g)) (hg2 : ∀ j, j < ax_nf ci → g j = jfv d σ (1000 * ci + j) x) {v : Value} (hv : jfv d (ws σ G x y) G x = v) : jVw d (ws σ G x y) (ax_set H (d.1 ci x) (.inr (ci, va_up g kf v))) := by
  obtain ⟨v1, v2, v3, v4, v5, v6, v7, v8, v9, v10⟩ := V
  refine ⟨fun c o h1 h2 => ?_, fun F o h1 => ?_, v3, v4, v5, v6, v7, v8, v9, v10⟩
  · obtain ⟨g', e1, e2⟩ := v1 c o h1 h2
    show ∃ g', va_up H.2.2 (d.1 ci x) (.inr (ci, va_up g kf v)) (d.1 c o) = .inr (c, g') ∧ _
    by_cases e : d.1 c o = d.1 ci x
    · rw [e, hg] at e1
      have ec : ci = c := by injection e1 with e1; injection e1
      subst ec
      have eo := v3 ci o x h1 h2 h0 hx e
      subst eo
      refine ⟨va_up g kf v, by rw [va_up_self], fun j hj => ?_⟩
      by_cases ej : j = kf
      · subst ej
        rw [va_up_self, hG, hv]
      · rw [va_up_ne g v ej, hg2 j hj]
        refine (jfv_ne (σ := σ) (σ1 := ws σ G _ y) ?_ rfl).symm
        rw [rs_ws, if_neg (fun q => ej (by omega))]
    · refine ⟨g', by rw [va_up_ne _ _ e]; exact e1, fun j hj => ?_⟩
      rw [e2 j hj]
      refine (jfv_ne (σ := σ) (σ1 := ws σ G x y) ?_ rfl).symm
      rw [rs_ws, if_neg]
      rintro ⟨q1, q2⟩
      have a1 := ax_nf_le c
      have a2 := ax_nf_le ci
      have : c = ci := by omega
      subst this
      subst q2
      exact e rfl
  · have e1 := v2 F o h1
    show va_up H.2.2 (d.1 ci x) (.inr (ci, va_up g kf v)) (d.2 F o) = _
    have e : ¬ d.2 F o = d.1 ci x := by
      intro e
      rw [e, hg] at e1
      cases e1
    rw [va_up_ne _ _ e, e1]
    rfl
theorem jWF_ws {σ : jS} {G : Nat} {x y : Int} (F : jWF σ) (hy : i32 y) (hk : ∀ k, jk G = k + 2 → y < rk σ k) : jWF (ws σ G x y) := by
  obtain ⟨f1, f2, f3, f4, f5, f6, f7⟩ := F
  refine ⟨fun F o => ?_, f2, fun F o k h => ?_, f4, f5, f6, f7⟩
  · rw [rs_ws]
    split
    · exact hy
    · exact f1 F o
  · rw [rs_ws]
    split
    · rename_i q
      obtain ⟨rfl, rfl⟩ := q
      exact hk k h
    · exact f3 F o k h
theorem jVw_arr {d : jD} {σ : jS} {H : ax_H} (V : jVw d σ H) {G : Nat} {o : Int} (hl : 0 ≤ rl σ G o) {g : Int → Int} {e : ax_E} (he : e = .inl (jt G, (rl σ G o).toNat, jct d (jt G) g)) : jVw d (wA σ G o g) (ax_set H (d.2 G o) e) := by
  obtain ⟨v1, v2, v3, v4, v5, v6, v7, v8, v9, v10⟩ := V
  refine ⟨fun c x h1 h2 => ?_, fun F p h1 => ?_, v3, v4, v5, v6, v7, v8, v9, v10⟩
  · obtain ⟨g', e1, e2⟩ := v1 c x h1 h2
    refine ⟨g', ?_, e2⟩
    show va_up H.2.2 (d.2 G o) e (d.1 c x) = _
    have e3 : ¬ d.1 c x = d.2 G o := by
      intro e3
      rw [e3, v2 G o hl] at e1
      cases e1
    rw [va_up_ne _ _ e3, e1]
  · show va_up H.2.2 (d.2 G o) e (d.2 F p) = _
    by_cases q : F = G ∧ p = o
    · obtain ⟨rfl, rfl⟩ := q
      rw [va_up_self, he, raf_wA, if_pos ⟨rfl, rfl⟩]
      rfl
    · have e3 : ¬ d.2 F p = d.2 G o := fun e3 => q (v4 F p G o h1 hl e3)
      rw [va_up_ne _ _ e3, v2 F p h1, raf_wA, if_neg q]
      rfl
theorem jWF_wA {σ : jS} {G : Nat} {o : Int} {g : Int → Int} (F : jWF σ) (hg : ∀ i, i32 (g i)) (hk : jt G = 4 → ∀ i, g i < rk σ 0) : jWF (wA σ G o g) := by
  obtain ⟨f1, f2, f3, f4, f5, f6, f7⟩ := F
  refine ⟨f1, fun F p i => ?_, f3, fun F p i h => ?_, f5, f6, f7⟩
  · rw [ra_wA]
    split
    · exact hg i
    · exact f2 F p i
  · rw [ra_wA]
    split
    · rename_i q
      obtain ⟨rfl, rfl⟩ := q
      exact hk h i
    · exact f4 F p i h
theorem jupd {g : Int → Int} {x y : Int} (h0 : 0 ≤ x) : upd (fun j : Nat => Int32.ofInt (g j)) x.toNat (Int32.ofInt y) = fun j : Nat => Int32.ofInt (upI g x y j) := by
  funext j
  unfold upI
  by_cases e : j = x.toNat
  · rw [if_pos (by omega)]
    simp [upd, e]
  · rw [if_neg (by omega)]
    simp [upd, e]
section JH
variable {n : Nat} {cd : List ax_En} {rt : Option FieldType} {pc pc' : Nat} {L L' : List (Option jV)} {S S' : List jV} {σ : jS} {Q : Option jV → jS → Prop} {a b c : Nat} {x y : Int}
theorem J_put_s {idx ci kf G : Nat} {v : jV} (hf : ax_fd cd pc = some (pc, .putfield idx, 3, ci, kf, c)) (hG : 1000 * ci + kf = G) (hnf : kf < ax_nf ci) (h0 : 0 ≤ x) (hfit : ∀ d, jok σ v → ax_fit (ax_ty ci kf) (jcv d v) = true) (hv : ∀ d, jfv d (ws σ G x y) G x = jcv d v) (hy : jWF σ → jok σ v → i32 y ∧ ∀ k, jk G = k + 2 → y < rk σ k) (hn : pc + 3 = pc') (k : ∀ σ1, σ1 = ws σ G x y → J n cd rt pc' L S σ1 Q) : J n cd rt pc L (v :: jo ci x :: S) σ Q :=
  J_heap (σ1 := ws σ G x y) (S' := S) hf rfl (fun d H Lm V F R kL kS => by
    have hx : x < rk σ ci := jokS_hd (jokS_tl kS)
    obtain ⟨g, hg, hg2⟩ := jVw_obj V h0 hx
    refine ⟨d, ax_set H (d.1 ci x) (.inr (ci, va_up g kf (jcv d v))), ?_, jVw_put V hG hnf h0 hx hg hg2 (hv d), jWF_ws F (hy F (jokS_hd kS)).1 (hy F (jokS_hd kS)).2, ⟨fun _ _ _ _ => rfl, fun _ => Int.le_refl _, fun _ _ _ h => ⟨rfl, h⟩, jG4.sm rfl (fun _ _ => rfl) rfl⟩, R, kL, jokS_tl (jokS_tl kS)⟩
    show ax_step (pc, .putfield idx, 3, ci, kf, c) Lm (jcv d v :: jcv d (jo ci x) :: S.map (jcv d)) H = _
    rw [jcv_o h0]
    show (match H.2.2 (d.1 ci x) with
      | .inr (ci', f) => if ci' = ci ∧ ax_fit (ax_ty ci' kf) (jcv d v) = true then some (pc + 3, Lm, S.map (jcv d), ax_set H (d.1 ci x) (.inr (ci', va_up f kf (jcv d v)))) else none
      | _ => none) = _
    rw [hg]
    dsimp only
    rw [if_pos ⟨rfl, hfit d (jokS_hd kS)⟩, hn]) (k _ rfl)
theorem J_putI {idx ci kf G : Nat} (hf : ax_fd cd pc = some (pc, .putfield idx, 3, ci, kf, c)) (hG : 1000 * ci + kf = G) (hnf : kf < ax_nf ci) (hty : ax_ty ci kf = .int) (hj : jk G = 0) (h0 : 0 ≤ x) (hn : pc + 3 = pc') (k : ∀ σ1, σ1 = ws σ G x y → J n cd rt pc' L S σ1 Q) : J n cd rt pc L (ji y :: jo ci x :: S) σ Q :=
  J_put_s hf hG hnf h0 (v := ji y) (fun d _ => by rw [hty]; rfl) (fun d => by unfold jfv; rw [hj, rs_ws, if_pos ⟨rfl, rfl⟩]; rfl) (fun _ h => ⟨h, fun k q => by omega⟩) hn k
theorem J_putZ {idx ci kf G : Nat} (hf : ax_fd cd pc = some (pc, .putfield idx, 3, ci, kf, c)) (hG : 1000 * ci + kf = G) (hnf : kf < ax_nf ci) (hty : ax_ty ci kf = .boolean) (hj : jk G = 0) (h0 : 0 ≤ x) (hy : y = 0 ∨ y = 1) (hn : pc + 3 = pc') (k : ∀ σ1, σ1 = ws σ G x y → J n cd rt pc' L S σ1 Q) : J n cd rt pc L (ji y :: jo ci x :: S) σ Q :=
  J_put_s hf hG hnf h0 (v := ji y) (fun d _ => by
    rw [hty]
    rcases hy with rfl | rfl <;> rfl) (fun d => by unfold jfv; rw [hj, rs_ws, if_pos ⟨rfl, rfl⟩]; rfl) (fun _ h => ⟨h, fun k q => by omega⟩) hn k
theorem J_putO {idx ci kf G k0 : Nat} {C : String} (hf : ax_fd cd pc = some (pc, .putfield idx, 3, ci, kf, c)) (hG : 1000 * ci + kf = G) (hnf : kf < ax_nf ci) (hty : ax_ty ci kf = .object C) (hj : jk G = k0 + 2) (h0 : 0 ≤ x) (hy : 0 ≤ y) (hn : pc + 3 = pc') (k : ∀ σ1, σ1 = ws σ G x y → J n cd rt pc' L S σ1 Q) : J n cd rt pc L (jo k0 y :: jo ci x :: S) σ Q :=
  J_put_s hf hG hnf h0 (v := jo k0 y) (fun d _ => by rw [hty, jcv_o hy]; rfl) (fun d => by unfold jfv; rw [hj, rs_ws, if_pos ⟨rfl, rfl⟩]; rfl) (fun F h => by
    have h1 : y < rk σ k0 := h
    have h2 := (F.2.2.2.2.1 k0).2
    exact ⟨⟨by omega, by omega⟩, fun k q => by
      have : k = k0 := by omega
      subst this
      exact h1⟩) hn k
theorem J_iast {G : Nat} {o : Int} (hf : ax_fd cd pc = some (pc, .iastore, 1, a, b, c)) (ht : jt G = 0) (hs : ¬ G = jscr) (h0 : 0 ≤ x) (h1 : x < rl σ G o) (hn : pc + 1 = pc') (k : ∀ σ1, σ1 = wa σ G o x y → J n cd rt pc' L S σ1 Q) : J n cd rt pc L (ji y :: ji x :: ja G o :: S) σ Q :=
  J_heap (σ1 := wa σ G o x y) (S' := S) hf rfl (fun d H Lm V F R kL kS => by
    have hy : i32 y := jokS_hd kS
    have hx : i32 x := jokS_hd (jokS_tl kS)
    have hl : 0 ≤ rl σ G o := by omega
    refine ⟨d, _, ?_, jVw_arr (g := upI (ra σ G o) x y) V hl rfl, jWF_wA F (fun i => ?_) (fun h => by omega), ⟨fun _ _ _ _ => rfl, fun _ => Int.le_refl _, fun _ _ _ h => ⟨rfl, h⟩, jG4.sm rfl (fun _ _ => rfl) rfl⟩, R, kL, jokS_tl (jokS_tl (jokS_tl kS))⟩
    · show (match H.2.2 (d.2 G o) with
        | .inl (t, n, .inl f) => if t = 0 ∧ ax_ix (Int32.ofInt x) n = true ∧ ¬ d.2 G o = 0 then some (pc + 1, Lm, S.map (jcv d), ax_set H (d.2 G o) (.inl (t, n, .inl (upd f (Int32.ofInt x).toNatClampNeg (Int32.ofInt y))))) else none
        | _ => none) = _
      rw [V.2.1 G o hl, ht, jct_int (by decide) (by decide), jct_int (by decide) (by decide)]
      dsimp only
      rw [if_pos ⟨rfl, j_ix hx h0 h1, fun q => hs (V.2.2.2.2.2.2.1 G o hl q)⟩, hn, j_clamp hx, jupd h0]
    · unfold upI
      split
      · exact hy
      · exact F.2.1 G o i) (k _ rfl)
theorem j_nar1 (x : Int) : vp_nar .byte (Int32.ofInt x) = Int32.ofInt (bI8 x) := by
  rw [vp_nar_byte]
  exact (Int32.ofInt_toInt _).symm
theorem J_bast1 {G : Nat} {o : Int} (hf : ax_fd cd pc = some (pc, .bastore, 1, a, b, c)) (ht : jt G = 1) (h0 : 0 ≤ x) (h1 : x < rl σ G o) (hn : pc + 1 = pc') (k : ∀ σ1, σ1 = wa σ G o x (bI8 y) → J n cd rt pc' L S σ1 Q) : J n cd rt pc L (ji y :: ji x :: ja G o :: S) σ Q :=
  J_heap (σ1 := wa σ G o x (bI8 y)) (S' := S) hf rfl (fun d H Lm V F R kL kS => by
    have hy : i32 y := jokS_hd kS
    have hx : i32 x := jokS_hd (jokS_tl kS)
    have hl : 0 ≤ rl σ G o := by omega
    refine ⟨d, _, ?_, jVw_arr (g := upI (ra σ G o) x (bI8 y)) V hl rfl, jWF_wA F (fun i => ?_) (fun h => by omega), ⟨fun _ _ _ _ => rfl, fun _ => Int.le_refl _, fun _ _ _ h => ⟨rfl, h⟩, jG4.sm rfl (fun _ _ => rfl) rfl⟩, R, kL, jokS_tl (jokS_tl (jokS_tl kS))⟩
    · show (match H.2.2 (d.2 G o) with
        | .inl (t, n, .inl f) => if (t = 1 ∨ t = 2) ∧ ax_ix (Int32.ofInt x) n = true then some (pc + 1, Lm, S.map (jcv d), ax_set H (d.2 G o) (.inl (t, n, .inl (upd f (Int32.ofInt x).toNatClampNeg (vp_nar (if t = 1 then .byte else .boolean) (Int32.ofInt y)))))) else none
        | _ => none) = _
      rw [V.2.1 G o hl, ht, jct_int (by decide) (by decide), jct_int (by decide) (by decide)]
      dsimp only
      rw [if_pos ⟨Or.inl rfl, j_ix hx h0 h1⟩, hn, j_clamp hx, if_pos rfl, j_nar1, jupd h0]
    · unfold upI
      split
      · exact i32_of _
      · exact F.2.1 G o i) (k _ rfl)
theorem J_bast2 {G : Nat} {o : Int} (hf : ax_fd cd pc = some (pc, .bastore, 1, a, b, c)) (ht : jt G = 2) (hb : y = 0 ∨ y = 1) (h0 : 0 ≤ x) (h1 : x < rl σ G o) (hn : pc + 1 = pc') (k : ∀ σ1, σ1 = wa σ G o x y → J n cd rt pc' L S σ1 Q) : J n cd rt pc L (ji y :: ji x :: ja G o :: S) σ Q :=
  J_heap (σ1 := wa σ G o x y) (S' := S) hf rfl (fun d H Lm V F R kL kS => by
    have hy : i32 y := jokS_hd kS
    have hx : i32 x := jokS_hd (jokS_tl kS)
    have hl : 0 ≤ rl σ G o := by omega
    refine ⟨d, _, ?_, jVw_arr (g := upI (ra σ G o) x y) V hl rfl, jWF_wA F (fun i => ?_) (fun h => by omega), ⟨fun _ _ _ _ => rfl, fun _ => Int.le_refl _, fun _ _ _ h => ⟨rfl, h⟩, jG4.sm rfl (fun _ _ => rfl) rfl⟩, R, kL, jokS_tl (jokS_tl (jokS_tl kS))⟩
    · show (match H.2.2 (d.2 G o) with
        | .inl (t, n, .inl f) => if (t = 1 ∨ t = 2) ∧ ax_ix (Int32.ofInt x) n = true then some (pc + 1, Lm, S.map (jcv d), ax_set H (d.2 G o) (.inl (t, n, .inl (upd f (Int32.ofInt x).toNatClampNeg (vp_nar (if t = 1 then .byte else .boolean) (Int32.ofInt y)))))) else none
        | _ => none) = _
      rw [V.2.1 G o hl, ht, jct_int (by decide) (by decide), jct_int (by decide) (by decide)]
      dsimp only
      rw [if_pos ⟨Or.inr rfl, j_ix hx h0 h1⟩, hn, j_clamp hx, if_neg (by decide), show vp_nar .boolean (Int32.ofInt y) = Int32.ofInt y by rcases hb with rfl | rfl <;> rfl, jupd h0]
    · unfold upI
      split
      · exact hy
      · exact F.2.1 G o i) (k _ rfl)
theorem J_last {G : Nat} {o : Int} (hf : ax_fd cd pc = some (pc, .lastore, 1, a, b, c)) (ht : jt G = 3) (hy : i32 y) (h0 : 0 ≤ x) (h1 : x < rl σ G o) (hn : pc + 1 = pc') (k : ∀ σ1, σ1 = wa σ G o x y → J n cd rt pc' L S σ1 Q) : J n cd rt pc L (jl y :: ji x :: ja G o :: S) σ Q :=
  J_heap (σ1 := wa σ G o x y) (S' := S) hf rfl (fun d H Lm V F R kL kS => by
    have hx : i32 x := jokS_hd (jokS_tl kS)
    have hl : 0 ≤ rl σ G o := by omega
    refine ⟨d, _, ?_, jVw_arr (g := upI (ra σ G o) x y) V hl rfl, jWF_wA F (fun i => ?_) (fun h => by omega), ⟨fun _ _ _ _ => rfl, fun _ => Int.le_refl _, fun _ _ _ h => ⟨rfl, h⟩, jG4.sm rfl (fun _ _ => rfl) rfl⟩, R, kL, jokS_tl (jokS_tl (jokS_tl kS))⟩
    · show (match H.2.2 (d.2 G o) with
        | .inl (t, n, .inr (.inl f)) => if t = 3 ∧ ax_ix (Int32.ofInt x) n = true then some (pc + 1, Lm, S.map (jcv d), ax_set H (d.2 G o) (.inl (t, n, .inr (.inl (vp_updL f (Int32.ofInt x).toNatClampNeg (Int64.ofInt y)))))) else none
        | _ => none) = _
      rw [V.2.1 G o hl, ht]
      have e1 : jct d 3 (ra σ G o) = .inr (.inl (fun j : Nat => Int64.ofInt (ra σ G o j))) := rfl
      have e2 : jct d 3 (upI (ra σ G o) x y) = .inr (.inl (vp_updL (fun j : Nat => Int64.ofInt (ra σ G o j)) x.toNat (Int64.ofInt y))) := by
        show (.inr (.inl _) : jC) = _
        refine congrArg (fun f => (.inr (.inl f) : jC)) (funext fun j => ?_)
        unfold vp_updL upI
        by_cases e : j = x.toNat
        · rw [if_pos (by omega), if_pos e]
        · rw [if_neg (by omega), if_neg e]
      rw [e1, e2]
      dsimp only
      rw [if_pos ⟨rfl, j_ix hx h0 h1⟩, hn, j_clamp hx]
    · unfold upI
      split
      · exact hy
      · exact F.2.1 G o i) (k _ rfl)
theorem J_aast {G : Nat} {o : Int} (hf : ax_fd cd pc = some (pc, .aastore, 1, a, b, c)) (ht : jt G = 4) (hy0 : 0 ≤ y) (h0 : 0 ≤ x) (h1 : x < rl σ G o) (hn : pc + 1 = pc') (k : ∀ σ1, σ1 = wa σ G o x y → J n cd rt pc' L S σ1 Q) : J n cd rt pc L (jo 0 y :: ji x :: ja G o :: S) σ Q :=
  J_heap (σ1 := wa σ G o x y) (S' := S) hf rfl (fun d H Lm V F R kL kS => by
    have hy : y < rk σ 0 := jokS_hd kS
    have hx : i32 x := jokS_hd (jokS_tl kS)
    have hl : 0 ≤ rl σ G o := by omega
    have hk := (F.2.2.2.2.1 0).2
    refine ⟨d, _, ?_, jVw_arr (g := upI (ra σ G o) x y) V hl rfl, jWF_wA F (fun i => ?_) (fun h i => ?_), ⟨fun _ _ _ _ => rfl, fun _ => Int.le_refl _, fun _ _ _ h => ⟨rfl, h⟩, jG4.sm rfl (fun _ _ => rfl) rfl⟩, R, kL, jokS_tl (jokS_tl (jokS_tl kS))⟩
    · obtain ⟨g, hg, -⟩ := jVw_obj V hy0 hy
      show ax_step (pc, .aastore, 1, a, b, c) Lm (jcv d (jo 0 y) :: jcv d (ji x) :: jcv d (ja G o) :: S.map (jcv d)) H = _
      rw [jcv_o hy0]
      show (match H.2.2 (d.2 G o), H.2.2 (d.1 0 y) with
        | .inl (t, n, .inr (.inr (.inr (.inr f)))), .inr (ci, _) => if t = 4 ∧ ci = 0 ∧ ax_ix (Int32.ofInt x) n = true then some (pc + 1, Lm, S.map (jcv d), ax_set H (d.2 G o) (.inl (t, n, .inr (.inr (.inr (.inr (va_up f (Int32.ofInt x).toNatClampNeg (some (d.1 0 y))))))))) else none
        | _, _ => none) = _
      rw [V.2.1 G o hl, ht, hg]
      have e1 : jct d 4 (ra σ G o) = .inr (.inr (.inr (.inr (fun j : Nat => if ra σ G o j < 0 then none else some (d.1 0 (ra σ G o j)))))) := rfl
      have e2 : jct d 4 (upI (ra σ G o) x y) = .inr (.inr (.inr (.inr (va_up (fun j : Nat => if ra σ G o j < 0 then none else some (d.1 0 (ra σ G o j))) x.toNat (some (d.1 0 y)))))) := by
        show (.inr (.inr (.inr (.inr _))) : jC) = _
        refine congrArg (fun f => (.inr (.inr (.inr (.inr f))) : jC)) (funext fun j => ?_)
        unfold va_up upI
        by_cases e : j = x.toNat
        · rw [if_pos (show (j : Int) = x by omega), if_pos e, if_neg (by omega)]
        · rw [if_neg (show ¬ (j : Int) = x by omega), if_neg e]
      rw [e1, e2]
      dsimp only
      rw [if_pos ⟨rfl, rfl, j_ix hx h0 h1⟩, hn, j_clamp hx]
    · unfold upI
      split
      · exact ⟨by omega, by omega⟩
      · exact F.2.1 G o i
    · unfold upI
      split
      · exact hy
      · exact F.2.2.2.1 G o i h) (k _ rfl)
/-- a row is copied into another -/
theorem J_copy {idx m F1 F2 : Nat} {o1 o2 sp dp q : Int} (hf : ax_fd cd pc = some (pc, .invokestatic idx, 3, m, 6, c)) (ht1 : jt F1 = 0) (ht2 : jt F2 = 0) (hs1 : ¬ F1 = jscr) (hs2 : ¬ F2 = jscr) (h1 : 1 ≤ n) (hcat : (S.map jcat).sum ≤ 10) (g1 : 0 ≤ sp) (g2 : 0 ≤ dp) (g3 : 0 ≤ q) (g4 : sp + q ≤ rl σ F1 o1) (g5 : dp + q ≤ rl σ F2 o2) (hn : pc + 3 = pc')
    (k : ∀ σ1, σ1 = wA σ F2 o2 (fun j => if dp ≤ j ∧ j < dp + q then ra σ F1 o1 (sp + (j - dp)) else ra σ F2 o2 j) → J n cd rt pc' L S σ1 Q) : J n cd rt pc L (ji q :: ji dp :: ja F2 o2 :: ji sp :: ja F1 o1 :: S) σ Q := by
  intro d H Lm V F R kL kS
  have k1 : i32 q := jokS_hd kS
  have k2 : i32 dp := jokS_hd (jokS_tl kS)
  have k3 : 0 ≤ rl σ F2 o2 := jokS_hd (jokS_tl (jokS_tl kS))
  have k4 : i32 sp := jokS_hd (jokS_tl (jokS_tl (jokS_tl kS)))
  have k5 : 0 ≤ rl σ F1 o1 := jokS_hd (jokS_tl (jokS_tl (jokS_tl (jokS_tl kS))))
  have k6 : jokS σ S := jokS_tl (jokS_tl (jokS_tl (jokS_tl (jokS_tl kS))))
  obtain ⟨d', H', r, σ', w1, w2, w3, w4, w5, w6⟩ := k _ rfl d _ Lm (jVw_arr (g := fun j => if dp ≤ j ∧ j < dp + q then ra σ F1 o1 (sp + (j - dp)) else ra σ F2 o2 j) V k3 rfl) (jWF_wA F (fun i => by
    split
    · exact F.2.1 _ _ _
    · exact F.2.1 _ _ _) (fun h => by omega)) R kL k6
  refine ⟨d', H', r, σ', w1, w2, w3, w4, w5, r_w hf rfl ⟨h1, by omega, ?_⟩ ?_ w6⟩
  · show (((ji q :: ji dp :: ja F2 o2 :: ji sp :: ja F1 o1 :: S).map (jcv d)).map fun v => v.category).sum ≤ 20
    rw [List.map_map, show ((fun v : Value => v.category) ∘ jcv d) = jcat from funext fun v => jcv_cat d v]
    show 1 + (1 + (1 + (1 + (1 + (S.map jcat).sum)))) ≤ 20
    omega
  · show (match H.2.2 (d.2 F1 o1), H.2.2 (d.2 F2 o2) with
        | .inl (t, ns, .inl f), .inl (t', nd, .inl g) => if t = 0 ∧ t' = 0 ∧ ¬ d.2 F2 o2 = 0 ∧ ¬ d.2 F1 o1 = 0 ∧ ¬ Int32.ofInt sp < 0 ∧ ¬ Int32.ofInt dp < 0 ∧ ¬ Int32.ofInt q < 0 ∧ (Int32.ofInt sp).toNatClampNeg + (Int32.ofInt q).toNatClampNeg ≤ ns ∧ (Int32.ofInt dp).toNatClampNeg + (Int32.ofInt q).toNatClampNeg ≤ nd
            then some (pc + 3, Lm, S.map (jcv d), ax_set H (d.2 F2 o2) (.inl (0, nd, .inl (va_cpy f g (Int32.ofInt sp).toNatClampNeg (Int32.ofInt dp).toNatClampNeg (Int32.ofInt q).toNatClampNeg)))) else none
        | _, _ => none) = _
    rw [V.2.1 F1 o1 k5, V.2.1 F2 o2 k3, ht1, ht2, jct_int (by decide) (by decide), jct_int (by decide) (by decide), jct_int (by decide) (by decide)]
    dsimp only
    rw [j_clamp k4, j_clamp k2, j_clamp k1, if_pos ⟨rfl, rfl, fun e => hs2 (V.2.2.2.2.2.2.1 F2 o2 k3 e), fun e => hs1 (V.2.2.2.2.2.2.1 F1 o1 k5 e), by rw [j_neg k4]; omega, by rw [j_neg k2]; omega, by rw [j_neg k1]; omega, by omega, by omega⟩, hn]
    refine congrArg (fun f => some (pc', Lm, S.map (jcv d), ax_set H (d.2 F2 o2) (.inl (0, (rl σ F2 o2).toNat, .inl f)))) (funext fun j => ?_)
    unfold va_cpy
    dsimp only
    by_cases e : dp.toNat ≤ j ∧ j < dp.toNat + q.toNat
    · rw [if_pos e, if_pos (by omega)]
      congr 2
      omega
    · rw [if_neg e, if_neg (by omega)]
end JH
