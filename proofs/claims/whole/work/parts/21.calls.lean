/-! Rows of runs told by numbers: a fresh row becomes a field's, calls, contracts. -/
theorem raf_mA (σ : jS) (t G : Nat) (x : Int) (F : Nat) (o : Int) : ra (mA σ t G x) F o = if F = G ∧ o = x then ra σ (jtmp t) 0 else ra σ F o := rfl
theorem rl_mA (σ : jS) (t G : Nat) (x : Int) (F : Nat) (o : Int) : rl (mA σ t G x) F o = if F = G ∧ o = x then rl σ (jtmp t) 0 else if F = jtmp t ∧ o = 0 then -1 else rl σ F o := rfl
theorem rl_mA_self {σ : jS} {t G : Nat} {x : Int} : rl (mA σ t G x) G x = rl σ (jtmp t) 0 := if_pos ⟨rfl, rfl⟩
theorem rl_mA_ne {σ : jS} {t G : Nat} {x : Int} {F : Nat} {o : Int} (h : ¬ (F = G ∧ o = x)) (h2 : F < 900000) : rl (mA σ t G x) F o = rl σ F o := by
  rw [rl_mA, if_neg h, if_neg (fun q => by have := q.1; unfold jtmp at this; omega)]
theorem rs_mA (σ : jS) (t G : Nat) (x : Int) (F : Nat) (o : Int) : rs (mA σ t G x) F o = rs σ F o := rfl
theorem rk_mA (σ : jS) (t G : Nat) (x : Int) (k : Nat) : rk (mA σ t G x) k = rk σ k := rfl
theorem rc_mA (σ : jS) (t G : Nat) (x : Int) : rc (mA σ t G x) = rc σ := rfl
theorem rz_mA (σ : jS) (t G : Nat) (x : Int) : rz (mA σ t G x) = rz σ := rfl
theorem rs_nA (σ : jS) (t : Nat) (m : Int) (F : Nat) (o : Int) : rs (nA σ t m) F o = rs σ F o := rfl
theorem rk_nA (σ : jS) (t : Nat) (m : Int) (k : Nat) : rk (nA σ t m) k = rk σ k := rfl
theorem rc_nA (σ : jS) (t : Nat) (m : Int) : rc (nA σ t m) = rc σ + 1 := rfl
theorem rz_nA (σ : jS) (t : Nat) (m : Int) : rz (nA σ t m) = rz σ + m := rfl
theorem rc_nO (σ : jS) (k : Nat) : rc (nO σ k) = rc σ + 1 := rfl
theorem rz_nO (σ : jS) (k : Nat) : rz (nO σ k) = rz σ + (ax_nf k : Nat) := rfl
theorem jdiv {k j : Nat} (h : j < ax_nf k) : (1000 * k + j) / 1000 = k := by
  have h1 : ax_nf k < 1000 := by
    unfold ax_nf
    split
    · rename_i q hq
      have h2 : ax_cl.all (fun q => decide (q.2.2 < 1000)) = true := by decide +kernel
      exact of_decide_eq_true (List.all_eq_true.mp h2 q (List.mem_of_getElem? hq))
    · decide
  omega
theorem jVw_mA {d : jD} {σ : jS} {H : ax_H} (V : jVw d σ H) {ci kf G t : Nat} {x : Int} (hG : 1000 * ci + kf = G) (hkf : kf < ax_nf ci) (hj : jk G = 1) (hjt : jt G = t) (h0 : 0 ≤ x) (hx : x < rk σ ci) (hl : 0 ≤ rl σ (jtmp t) 0) {g : Nat → Value} (hg : H.2.2 (d.1 ci x) = .inr (ci, g)) (hg2 : ∀ j, j < ax_nf ci → g j = jfv d σ (1000 * ci + j) x) : jVw (d.1, fun F o => if F = G ∧ o = x then d.2 (jtmp t) 0 else d.2 F o) (mA σ t G x) (ax_set H (d.1 ci x) (.inr (ci, va_up g kf (.ref (d.2 (jtmp t) 0))))) := by
  have hGt : ¬ G = jtmp t := fun e => by
    have := ax_nf_lt hkf
    unfold jtmp at e
    omega
  obtain ⟨v1, v2, v3, v4, v5, v6, v7, v8, v9, v10⟩ := V
  have hlen : ∀ F o, ¬ (F = G ∧ o = x) → 0 ≤ rl (mA σ t G x) F o → ¬ (F = jtmp t ∧ o = 0) ∧ 0 ≤ rl σ F o ∧ rl (mA σ t G x) F o = rl σ F o := fun F o q h => by
    rw [rl_mA, if_neg q] at h ⊢
    split at h
    · omega
    · rename_i q2
      rw [if_neg q2]
      exact ⟨q2, h, rfl⟩
  refine ⟨fun c o h1 h2 => ?_, fun F o h1 => ?_, v3, fun F o F' o' h1 h2 h3 => ?_, v5, fun F o h1 => ?_, fun F o h1 h2 => ?_, v8, v9, v10⟩
  · obtain ⟨g', e1, e2⟩ := v1 c o h1 h2
    show ∃ g', va_up H.2.2 (d.1 ci x) (.inr (ci, va_up g kf (.ref (d.2 (jtmp t) 0)))) (d.1 c o) = .inr (c, g') ∧ _
    by_cases e : d.1 c o = d.1 ci x
    · rw [e, hg] at e1
      have ec : ci = c := by injection e1 with e1; injection e1
      subst ec
      have eo := v3 ci o x h1 h2 h0 hx e
      subst eo
      refine ⟨va_up g kf (.ref (d.2 (jtmp t) 0)), by rw [va_up_self], fun j hj => ?_⟩
      by_cases ej : j = kf
      · subst ej
        rw [va_up_self, hG]
        unfold jfv
        rw [‹jk G = 1›]
        show _ = if rl (mA σ t G o) G o < 0 then Value.null else Value.ref (if G = G ∧ o = o then d.2 (jtmp t) 0 else d.2 G o)
        rw [rl_mA_self, if_neg (by omega), if_pos (show G = G ∧ o = o from ⟨rfl, rfl⟩)]
      · rw [va_up_ne g _ ej, hg2 j hj]
        have hlt := ax_nf_lt hj
        have hne : ¬ (1000 * ci + j = G ∧ o = o) := fun q => ej (by omega)
        unfold jfv
        split
        · rfl
        · rw [rl_mA_ne hne hlt]
          dsimp only
          rw [if_neg hne]
        · rfl
    · refine ⟨g', by rw [va_up_ne _ _ e]; exact e1, fun j hj => ?_⟩
      rw [e2 j hj]
      have hlt := ax_nf_lt hj
      have hne : ¬ (1000 * c + j = G ∧ o = x) := by
        rintro ⟨q1, q2⟩
        have a1 := ax_nf_le c
        have a2 := ax_nf_le ci
        have : c = ci := by omega
        subst this
        subst q2
        exact e rfl
      unfold jfv
      split
      · rfl
      · rw [rl_mA_ne hne hlt]
        dsimp only
        rw [if_neg hne]
      · rfl
  · show va_up H.2.2 (d.1 ci x) _ (if F = G ∧ o = x then d.2 (jtmp t) 0 else d.2 F o) = _
    have hobj : ∀ F o, 0 ≤ rl σ F o → ¬ d.2 F o = d.1 ci x := fun F o h e => by
      have := v2 F o h
      rw [e, hg] at this
      cases this
    by_cases q : F = G ∧ o = x
    · rw [if_pos q, va_up_ne _ _ (hobj _ _ hl), v2 _ _ hl, rl_mA, if_pos q, raf_mA, if_pos q, jt_tmp, q.1, hjt]
      rfl
    · obtain ⟨g1, g2, g3⟩ := hlen F o q h1
      rw [if_neg q, va_up_ne _ _ (hobj _ _ g2), v2 _ _ g2, g3, raf_mA, if_neg q]
      rfl
  · dsimp only at h3
    by_cases q : F = G ∧ o = x
    · by_cases q' : F' = G ∧ o' = x
      · exact ⟨q.1.trans q'.1.symm, q.2.trans q'.2.symm⟩
      · rw [if_pos q, if_neg q'] at h3
        obtain ⟨g1, g2, g3⟩ := hlen F' o' q' h2
        have := v4 _ _ F' o' hl g2 h3
        exact absurd ⟨this.1.symm, this.2.symm⟩ g1
    · obtain ⟨g1, g2, g3⟩ := hlen F o q h1
      by_cases q' : F' = G ∧ o' = x
      · rw [if_neg q, if_pos q'] at h3
        have := v4 F o _ _ g2 hl h3
        exact absurd this g1
      · obtain ⟨g1', g2', g3'⟩ := hlen F' o' q' h2
        rw [if_neg q, if_neg q'] at h3
        exact v4 F o F' o' g2 g2' h3
  · show (if F = G ∧ o = x then d.2 (jtmp t) 0 else d.2 F o) < H.1
    by_cases q : F = G ∧ o = x
    · rw [if_pos q]; exact v6 _ _ hl
    · rw [if_neg q]; exact v6 F o (hlen F o q h1).2.1
  · dsimp only at h2
    by_cases q : F = G ∧ o = x
    · rw [if_pos q] at h2
      have := v7 _ _ hl h2
      unfold jtmp jscr at this
      omega
    · rw [if_neg q] at h2
      exact v7 F o (hlen F o q h1).2.1 h2
theorem jWF_mA {σ : jS} {t G : Nat} {x : Int} (F : jWF σ) (hjt : jt G = t) (hx : G < 800000 → x < rk σ (G / 1000)) : jWF (mA σ t G x) := by
  obtain ⟨f1, f2, f3, f4, f5, f6, f7⟩ := F
  refine ⟨f1, fun F o i => ?_, f3, fun F o i h => ?_, f5, fun F o => ?_, fun F o h1 h2 => ?_⟩
  · show i32 (ra (mA σ t G x) F o i)
    rw [raf_mA]
    split
    · exact f2 _ _ _
    · exact f2 _ _ _
  · show ra (mA σ t G x) F o i < rk σ 0
    rw [raf_mA]
    split
    · rename_i q
      refine f4 _ _ _ ?_
      rw [jt_tmp, ← hjt, ← q.1]
      exact h
    · exact f4 F o i h
  · rw [rl_mA]
    split
    · exact f6 _ _
    · split
      · omega
      · exact f6 F o
  · rw [rk_mA]
    by_cases q : F = G ∧ o = x
    · obtain ⟨rfl, rfl⟩ := q
      exact hx h2
    · rw [rl_mA, if_neg q] at h1
      split at h1
      · omega
      · exact f7 F o h1 h2
def Tr (n i : Nat) (as : List jV) (σ : jS) (Q : Option jV → jS → Prop) : Prop := ∀ mt cd, ax_Z[i]? = some (mt, cd) → J n cd mt.2.2.2.2.1 0 (jent mt.2.2.2.1 as) [] σ Q
def qI (Q : Int → jS → Prop) : Option jV → jS → Prop := fun r σ => ∃ x, r = some (ji x) ∧ Q x σ
def qL (Q : Int → jS → Prop) : Option jV → jS → Prop := fun r σ => ∃ x, r = some (jl x) ∧ Q x σ
def qO (c : Nat) (Q : Int → jS → Prop) : Option jV → jS → Prop := fun r σ => ∃ x, r = some (jo c x) ∧ 0 ≤ x ∧ Q x σ
def qA (Q : Nat → Int → jS → Prop) : Option jV → jS → Prop := fun r σ => ∃ F o, r = some (ja F o) ∧ Q F o σ
def qV (Q : jS → Prop) : Option jV → jS → Prop := fun r σ => r = none ∧ Q σ
abbrev TrI (n i : Nat) (as : List jV) (σ : jS) (Q : Int → jS → Prop) : Prop := Tr n i as σ (qI Q)
abbrev TrL (n i : Nat) (as : List jV) (σ : jS) (Q : Int → jS → Prop) : Prop := Tr n i as σ (qL Q)
abbrev TrO (n i c : Nat) (as : List jV) (σ : jS) (Q : Int → jS → Prop) : Prop := Tr n i as σ (qO c Q)
abbrev TrA (n i : Nat) (as : List jV) (σ : jS) (Q : Nat → Int → jS → Prop) : Prop := Tr n i as σ (qA Q)
abbrev TrV (n i : Nat) (as : List jV) (σ : jS) (Q : jS → Prop) : Prop := Tr n i as σ (qV Q)
theorem Tr_of {n i : Nat} {as : List jV} {σ : jS} {Q : Option jV → jS → Prop} {mt : ax_Mt} {cd : List ax_En} (hz : ax_Z[i]? = some (mt, cd)) (k : J n cd mt.2.2.2.2.1 0 (jent mt.2.2.2.1 as) [] σ Q) : Tr n i as σ Q := by
  intro mt' cd' hz'
  rw [hz] at hz'
  cases hz'
  exact k
theorem Tr.mono {n i : Nat} {as : List jV} {σ : jS} {Q Q' : Option jV → jS → Prop} (k : Tr n i as σ Q') (hq : ∀ r σ', Q' r σ' → Q r σ') : Tr n i as σ Q := fun mt cd hz => J_mono (k mt cd hz) hq
theorem Tr.up {n n' i : Nat} {as : List jV} {σ : jS} {Q : Option jV → jS → Prop} (k : Tr n i as σ Q) (hn : n ≤ n') : Tr n' i as σ Q := fun mt cd hz => J_up (k mt cd hz) hn
theorem TrI.mo {n i : Nat} {as : List jV} {σ : jS} {Q Q' : Int → jS → Prop} (k : TrI n i as σ Q') (hq : ∀ x σ', Q' x σ' → Q x σ') : TrI n i as σ Q := Tr.mono k (fun r σ' ⟨x, e, h⟩ => ⟨x, e, hq x σ' h⟩)
theorem TrL.mo {n i : Nat} {as : List jV} {σ : jS} {Q Q' : Int → jS → Prop} (k : TrL n i as σ Q') (hq : ∀ x σ', Q' x σ' → Q x σ') : TrL n i as σ Q := Tr.mono k (fun r σ' ⟨x, e, h⟩ => ⟨x, e, hq x σ' h⟩)
theorem TrO.mo {n i c : Nat} {as : List jV} {σ : jS} {Q Q' : Int → jS → Prop} (k : TrO n i c as σ Q') (hq : ∀ x σ', 0 ≤ x → Q' x σ' → Q x σ') : TrO n i c as σ Q := Tr.mono k (fun r σ' ⟨x, e, h0, h⟩ => ⟨x, e, h0, hq x σ' h0 h⟩)
theorem TrA.mo {n i : Nat} {as : List jV} {σ : jS} {Q Q' : Nat → Int → jS → Prop} (k : TrA n i as σ Q') (hq : ∀ F o σ', Q' F o σ' → Q F o σ') : TrA n i as σ Q := Tr.mono k (fun r σ' ⟨F, o, e, h⟩ => ⟨F, o, e, hq F o σ' h⟩)
theorem TrV.mo {n i : Nat} {as : List jV} {σ : jS} {Q Q' : jS → Prop} (k : TrV n i as σ Q') (hq : ∀ σ', Q' σ' → Q σ') : TrV n i as σ Q := Tr.mono k (fun r σ' ⟨e, h⟩ => ⟨e, hq σ' h⟩)
theorem Tr_known {n i : Nat} {as : List jV} {σ : jS} {Q : Option jV → jS → Prop} (k : jWF σ → Tr n i as σ Q) : Tr n i as σ Q := fun mt cd hz => J_known (fun F _ => k F mt cd hz)
theorem jsl_mem : ∀ {as : List jV} {v : jV}, v ∈ as → some v ∈ jsl as := by
  intro as
  induction as with
  | nil => intro v h; cases h
  | cons a as ih =>
    intro v h
    rcases a with x | x | ⟨c, x⟩ | ⟨F, o⟩
    all_goals
      rcases List.mem_cons.mp h with e | e
      · subst e; exact List.mem_cons_self
      · first
        | exact List.mem_cons_of_mem _ (ih e)
        | exact List.mem_cons_of_mem _ (List.mem_cons_of_mem _ (ih e))
theorem Tr_knownA {n i : Nat} {as : List jV} {σ : jS} {Q : Option jV → jS → Prop} (k : jWF σ → (∀ v, v ∈ as → jok σ v) → Tr n i as σ Q) : Tr n i as σ Q := fun mt cd hz => J_known (fun F kL => k F (fun v hv => kL v (List.mem_append_left _ (jsl_mem hv))) mt cd hz)
theorem jsl_ok {σ : jS} : ∀ {as : List jV}, (∀ v, v ∈ as → jok σ v) → jokL σ (jsl as) := by
  intro as
  induction as with
  | nil => intro _ v hv; cases hv
  | cons a as ih =>
    intro h v hv
    have h2 := ih (fun v hv => h v (List.mem_cons_of_mem _ hv))
    have h1 := h a List.mem_cons_self
    rcases a with x | x | ⟨c, x⟩ | ⟨F, o⟩
    all_goals
      rcases List.mem_cons.mp hv with e | e
      · cases e; exact h1
      · first
        | exact h2 v e
        | (rcases List.mem_cons.mp e with e | e
           · cases e
           · exact h2 v e)
theorem jsl_map (d : jD) : ∀ (as : List jV), ax_sl (as.map (jcv d)) = (jsl as).map (fun o => o.map (jcv d)) := by
  intro as
  induction as with
  | nil => rfl
  | cons a as ih =>
    have hc := jcv_cat d a
    show (if (jcv d a).category = 2 then some (jcv d a) :: none :: ax_sl (as.map (jcv d)) else some (jcv d a) :: ax_sl (as.map (jcv d))) = _
    rw [ih, hc]
    rcases a with x | x | ⟨c, x⟩ | ⟨F, o⟩
    · rfl
    · rfl
    · rfl
    · rfl
theorem jent_rel (d : jD) (nL : Nat) (as : List jV) : jrel d (jent nL as) (ax_ent nL (as.map (jcv d))) := by
  have e : ax_ent nL (as.map (jcv d)) = (jent nL as).map (fun o => o.map (jcv d)) := by
    unfold ax_ent jent
    rw [jsl_map, List.map_append, List.length_map, List.map_replicate]
    rfl
  rw [e]
  refine ⟨by rw [List.length_map], fun i v h => ?_⟩
  rw [List.getElem?_map, h]
  rfl
section JT
variable {n : Nat} {cd : List ax_En} {rt : Option FieldType} {pc pc' : Nat} {L L' : List (Option jV)} {S S' : List jV} {σ : jS} {Q : Option jV → jS → Prop} {a b c : Nat} {x y : Int}
/-- a fresh row becomes a field's -/
theorem J_putT {idx ci kf G t : Nat} {ty : FieldType} (hf : ax_fd cd pc = some (pc, .putfield idx, 3, ci, kf, c)) (hG : 1000 * ci + kf = G) (hnf : kf < ax_nf ci) (hty : ax_ty ci kf = .array ty) (hj : jk G = 1) (hjt : jt G = t) (h0 : 0 ≤ x) (hold : jmv G = true ∨ rl σ G x < 0) (hL : jno G L) (hS : jnoS G S) (hL2 : jno (jtmp t) L) (hS2 : jnoS (jtmp t) S) (hn : pc + 3 = pc') (k : ∀ σ1, σ1 = mA σ t G x → J n cd rt pc' L S σ1 Q) : J n cd rt pc L (ja (jtmp t) 0 :: jo ci x :: S) σ Q :=
  J_heap (σ1 := mA σ t G x) (S' := S) hf rfl (fun d H Lm V F R kL kS => by
    have hl : 0 ≤ rl σ (jtmp t) 0 := jokS_hd kS
    have hx : x < rk σ ci := jokS_hd (jokS_tl kS)
    obtain ⟨g, hg, hg2⟩ := jVw_obj V h0 hx
    have hlt := ax_nf_lt hnf
    have hnle := ax_nf_le ci
    have hGt : ¬ G = jtmp t := fun e => by
      unfold jtmp at e
      omega
    have hm : ∀ (F : Nat) (o : Int), ¬ (F = G ∧ o = x) → ¬ F = jtmp t → (fun F o => if F = G ∧ o = x then d.2 (jtmp t) 0 else d.2 F o) F o = d.2 F o ∧ (0 ≤ rl σ F o → 0 ≤ rl (mA σ t G x) F o) := fun F o h1 h2 => by
      dsimp only
      rw [if_neg h1, rl_mA, if_neg h1, if_neg (fun q => h2 q.1)]
      exact ⟨rfl, id⟩
    obtain ⟨r1, r2⟩ := jrel_mv (d1 := (d.1, fun F o => if F = G ∧ o = x then d.2 (jtmp t) 0 else d.2 F o)) (σ1 := mA σ t G x) R kL (fun _ _ _ _ => rfl) (fun _ => Int.le_refl _) (fun F o hF => hm F o (fun q => jno_at hL F o hF q.1) (jno_at hL2 F o hF))
    obtain ⟨s1, s2⟩ := jS_mv (d := d) (d1 := (d.1, fun F o => if F = G ∧ o = x then d.2 (jtmp t) 0 else d.2 F o)) (σ1 := mA σ t G x) (jokS_tl (jokS_tl kS)) (fun _ _ _ _ => rfl) (fun _ => Int.le_refl _) (fun F o hF => hm F o (fun q => jnoS_at hS F o hF q.1) (jnoS_at hS2 F o hF))
    refine ⟨_, ax_set H (d.1 ci x) (.inr (ci, va_up g kf (.ref (d.2 (jtmp t) 0)))), ?_, jVw_mA V hG hnf hj hjt h0 hx hl hg hg2, jWF_mA F hjt (fun _ => by
      rw [← hG, jdiv hnf]; exact hx), ⟨fun _ _ _ _ => rfl, fun _ => Int.le_refl _, fun F o hF h => ?_, Int.le_refl _, fun _ hT => absurd (hT t) (by omega)⟩, r1, r2, s2⟩
    · show ax_step (pc, .putfield idx, 3, ci, kf, c) Lm (jcv d (ja (jtmp t) 0) :: jcv d (jo ci x) :: S.map (jcv d)) H = _
      rw [jcv_o h0, s1]
      show (match H.2.2 (d.1 ci x) with
        | .inr (ci', f) => if ci' = ci ∧ ax_fit (ax_ty ci' kf) (.ref (d.2 (jtmp t) 0)) = true then some (pc + 3, Lm, S.map (jcv d), ax_set H (d.1 ci x) (.inr (ci', va_up f kf (.ref (d.2 (jtmp t) 0))))) else none
        | _ => none) = _
      rw [hg]
      dsimp only
      rw [if_pos ⟨rfl, by rw [hty]; rfl⟩, hn]
    · have q : ¬ (F = G ∧ o = x) := by
        rintro ⟨rfl, rfl⟩
        rcases hold with h1 | h1
        · rw [h1] at hF; cases hF
        · omega
      have h2 := hm F o q (fun e => by rw [e, jmv_tmp] at hF; cases hF)
      exact ⟨h2.1, h2.2 h⟩) (k _ rfl)
/-- a call over which a row of any kind stays at hand: nothing is made in it -/
theorem J_callK {e : ax_En} {mt : ax_Mt} {cd1 : List ax_En} {as rest : List jV} {Q1 : Int → jS → Prop} (hf : ax_fd cd pc = some e) (hc : ax_ctl e = 1) (hz : ax_Z[e.2.2.2.1]? = some (mt, cd1)) (hS : S = as.reverse ++ rest) (hlen : as.length = ax_na mt) (hrc : e.2.2.2.2.1 = 1 ∨ e.2.2.2.2.1 = 5 ∨ ∃ x as1, as = jo mt.1 x :: as1 ∧ 0 ≤ x) (hcat : (rest.map jcat).sum ≤ 8) (hsl : (jsl as).length ≤ mt.2.2.2.1) (hml : mt.2.2.2.1 ≤ 80) (hn : 1 ≤ n) (hT : jnT σ) (hpc : pc + 3 = pc')
    (hcal : TrI (n - 1) e.2.2.2.1 as σ (fun x σ1 => rc σ1 = rc σ ∧ Q1 x σ1)) (k : ∀ x σ1, Q1 x σ1 → J n cd rt pc' L (ji x :: rest) σ1 Q) : J n cd rt pc L S σ Q := by
  intro d H Lm V F R kL kS
  subst hS
  have kas : ∀ v, v ∈ as → jok σ v := fun v hv => kS v (List.mem_append_left _ (List.mem_reverse.mpr hv))
  have krest : jokS σ rest := fun v hv => kS v (List.mem_append_right _ hv)
  obtain ⟨d1, H1, r, σ1, w1, w2, w3, w4, w5, w6⟩ := hcal mt cd1 hz d H (ax_ent mt.2.2.2.1 (as.map (jcv d))) V F (jent_rel d _ as) (fun v hv => by
    rcases List.mem_append.mp hv with h | h
    · exact jsl_ok kas v h
    · exact absurd (List.eq_of_mem_replicate h) (by intro h; cases h)) (fun v hv => by cases hv)
  obtain ⟨x, rfl, hrc1, w5⟩ := w5
  have hm := (w3.2.2.2.2 hrc1 hT).2
  obtain ⟨q1, q2⟩ := jrel_mv (d1 := d1) (σ1 := σ1) R kL w3.1 w3.2.1 (fun F o h => ⟨(hm F o (kL _ h)).1, fun g => (hm F o g).2⟩)
  obtain ⟨q3, q4⟩ := jS_mv (d := d) (d1 := d1) (σ1 := σ1) krest w3.1 w3.2.1 (fun F o h => ⟨(hm F o (krest _ h)).1, fun g => (hm F o g).2⟩)
  obtain ⟨d', H', r', σ', g1, g2, g3, g4, g5, g6⟩ := k x σ1 w5 d1 H1 Lm w1 w2 q1 q2 (fun v hv => by
    rcases List.mem_cons.mp hv with h | h
    · subst h; exact w4 _ rfl
    · exact q4 v h)
  refine ⟨d', H', r', σ', g1, g2, w3.tr g3, g4, g5, ?_⟩
  have hmap : (as.reverse ++ rest).map (jcv d) = (as.map (jcv d)).reverse ++ rest.map (jcv d) := by rw [List.map_append, List.map_reverse]
  refine r_call (as := as.map (jcv d)) (rest := rest.map (jcv d)) (rc := some (jcv d1 (ji x))) (fr0 := n - 1) (lo0 := 100 * (n - 1)) hf hc hz hmap (by rw [List.length_map]; exact hlen) ?_ ?_ ?_ (by omega) (by omega) w6 ?_
  · unfold ax_rc
    rcases hrc with h | h | ⟨x, as1, rfl, h0⟩
    · rw [if_pos (Or.inl h)]
    · rw [if_pos (Or.inr h)]
    · split
      · rfl
      · have hx : x < rk σ mt.1 := kas _ List.mem_cons_self
        obtain ⟨g, hg, -⟩ := jVw_obj V h0 hx
        show (match jcv d (jo mt.1 x) :: as1.map (jcv d) with
          | .ref q :: _ => match H.2.2 q with
            | .inr (ci, _) => decide (ci = mt.1)
            | _ => false
          | _ => false) = true
        rw [jcv_o h0]
        dsimp only
        rw [hg]
        exact decide_eq_true rfl
  · show ((rest.map (jcv d)).map fun v => v.category).sum ≤ 8
    rw [List.map_map, show ((fun v : Value => v.category) ∘ jcv d) = jcat from funext fun v => jcv_cat d v]
    exact hcat
  · rw [jsl_map, List.length_map]
    exact hsl
  · rw [hpc]
    rw [← q3]
    exact g6
theorem J_call {e : ax_En} {mt : ax_Mt} {cd1 : List ax_En} {as rest : List jV} {Q1 : Option jV → jS → Prop} (hf : ax_fd cd pc = some e) (hc : ax_ctl e = 1) (hz : ax_Z[e.2.2.2.1]? = some (mt, cd1)) (hS : S = as.reverse ++ rest) (hlen : as.length = ax_na mt) (hrc : e.2.2.2.2.1 = 1 ∨ e.2.2.2.2.1 = 5 ∨ ∃ x as1, as = jo mt.1 x :: as1 ∧ 0 ≤ x) (hcat : (rest.map jcat).sum ≤ 8) (hsl : (jsl as).length ≤ mt.2.2.2.1) (hml : mt.2.2.2.1 ≤ 80) (hn : 1 ≤ n) (hm : jnmL L) (hms : jnmS rest) (hpc : pc + 3 = pc')
    (hcal : Tr (n - 1) e.2.2.2.1 as σ Q1) (k : ∀ r σ1, Q1 r σ1 → J n cd rt pc' L (r.toList ++ rest) σ1 Q) : J n cd rt pc L S σ Q := by
  intro d H Lm V F R kL kS
  subst hS
  have kas : ∀ v, v ∈ as → jok σ v := fun v hv => kS v (List.mem_append_left _ (List.mem_reverse.mpr hv))
  have krest : jokS σ rest := fun v hv => kS v (List.mem_append_right _ hv)
  obtain ⟨d1, H1, r, σ1, w1, w2, w3, w4, w5, w6⟩ := hcal mt cd1 hz d H (ax_ent mt.2.2.2.1 (as.map (jcv d))) V F (jent_rel d _ as) (fun v hv => by
    rcases List.mem_append.mp hv with h | h
    · exact jsl_ok kas v h
    · exact absurd (List.eq_of_mem_replicate h) (by intro h; cases h)) (fun v hv => by cases hv)
  obtain ⟨q1, q2⟩ := R.gd w3 kL hm
  obtain ⟨q3, q4⟩ := jS_gd w3 krest hms
  obtain ⟨d', H', r', σ', g1, g2, g3, g4, g5, g6⟩ := k r σ1 w5 d1 H1 Lm w1 w2 q1 q2 (fun v hv => by
    rcases List.mem_append.mp hv with h | h
    · exact w4 v (Option.mem_toList.mp h)
    · exact q4 v h)
  refine ⟨d', H', r', σ', g1, g2, w3.tr g3, g4, g5, ?_⟩
  have hmap : (as.reverse ++ rest).map (jcv d) = (as.map (jcv d)).reverse ++ rest.map (jcv d) := by rw [List.map_append, List.map_reverse]
  refine r_call (as := as.map (jcv d)) (rest := rest.map (jcv d)) (rc := r.map (jcv d1)) (fr0 := n - 1) (lo0 := 100 * (n - 1)) hf hc hz hmap (by rw [List.length_map]; exact hlen) ?_ ?_ ?_ (by omega) (by omega) w6 ?_
  · unfold ax_rc
    rcases hrc with h | h | ⟨x, as1, rfl, h0⟩
    · rw [if_pos (Or.inl h)]
    · rw [if_pos (Or.inr h)]
    · split
      · rfl
      · have hx : x < rk σ mt.1 := kas _ List.mem_cons_self
        obtain ⟨g, hg, -⟩ := jVw_obj V h0 hx
        show (match jcv d (jo mt.1 x) :: as1.map (jcv d) with
          | .ref q :: _ => match H.2.2 q with
            | .inr (ci, _) => decide (ci = mt.1)
            | _ => false
          | _ => false) = true
        rw [jcv_o h0]
        dsimp only
        rw [hg]
        exact decide_eq_true rfl
  · show ((rest.map (jcv d)).map fun v => v.category).sum ≤ 8
    rw [List.map_map, show ((fun v : Value => v.category) ∘ jcv d) = jcat from funext fun v => jcv_cat d v]
    exact hcat
  · rw [jsl_map, List.length_map]
    exact hsl
  · rw [hpc]
    have : (r.toList ++ rest).map (jcv d1) = (r.map (jcv d1)).toList ++ rest.map (jcv d) := by
      rw [List.map_append, q3]
      cases r <;> rfl
    rw [this] at g6
    exact g6
end JT
