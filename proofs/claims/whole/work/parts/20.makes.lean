/-! Rows of runs told by numbers: what is made, calls. -/
theorem ax_nf_lt {k j : Nat} (h : j < ax_nf k) : 1000 * k + j < 900000 := by
  have h1 := ax_nf_le k
  have h3 := h
  unfold ax_nf at h
  split at h
  · rename_i q hq
    have := (List.getElem?_eq_some_iff.mp hq).1
    have h2 : ax_cl.length ≤ 100 := by decide
    omega
  · omega
theorem ax_nf_lt8 {k j : Nat} (h : j < ax_nf k) : 1000 * k + j < 800000 := by
  have h1 := ax_nf_le k
  have h3 := h
  unfold ax_nf at h
  split at h
  · rename_i q hq
    have := (List.getElem?_eq_some_iff.mp hq).1
    have h2 : ax_cl.length ≤ 100 := by decide
    omega
  · omega
theorem jt_tmp (t : Nat) : jt (jtmp t) = t := by
  unfold jt jtmp
  rw [if_pos (by omega)]
  omega
theorem jmv_tmp (t : Nat) : jmv (jtmp t) = true := by
  unfold jmv jtmp
  rw [decide_eq_true (by omega)]
  rfl
/-- no row of that field is at hand -/
def jno (G : Nat) (L : List (Option jV)) : Prop := match L with
  | [] => True
  | some (.inr (.inr (.inr (F, _)))) :: L => ¬ F = G ∧ jno G L
  | _ :: L => jno G L
def jnoS (G : Nat) (S : List jV) : Prop := match S with
  | [] => True
  | .inr (.inr (.inr (F, _))) :: S => ¬ F = G ∧ jnoS G S
  | _ :: S => jnoS G S
theorem jno_at {G : Nat} : ∀ {L : List (Option jV)}, jno G L → ∀ F o, some (ja F o) ∈ L → ¬ F = G := by
  intro L
  induction L with
  | nil => intro _ F o hv; cases hv
  | cons a L ih =>
    intro h F o hv
    rcases a with _ | x | x | ⟨c, x⟩ | ⟨F', o'⟩
    all_goals
      rcases List.mem_cons.mp hv with e | e
      · first
        | (cases e; done)
        | (cases e; exact h.1)
      · first
        | exact ih h F o e
        | exact ih h.2 F o e
theorem jnoS_at {G : Nat} : ∀ {S : List jV}, jnoS G S → ∀ F o, ja F o ∈ S → ¬ F = G := by
  intro S
  induction S with
  | nil => intro _ F o hv; cases hv
  | cons a S ih =>
    intro h F o hv
    rcases a with x | x | ⟨c, x⟩ | ⟨F', o'⟩
    all_goals
      rcases List.mem_cons.mp hv with e | e
      · first
        | (cases e; done)
        | (cases e; exact h.1)
      · first
        | exact ih h F o e
        | exact ih h.2 F o e
/-- a value seen from another world of addresses -/
theorem jcv_mv {d d1 : jD} {σ σ1 : jS} {v : jV} (ho : ∀ c o, 0 ≤ o → o < rk σ c → d1.1 c o = d.1 c o) (hk : ∀ c, rk σ c ≤ rk σ1 c) (ha : ∀ F o, v = ja F o → d1.2 F o = d.2 F o ∧ (0 ≤ rl σ F o → 0 ≤ rl σ1 F o)) (h : jok σ v) : jcv d1 v = jcv d v ∧ jok σ1 v := by
  rcases v with x | x | ⟨c, x⟩ | ⟨F, o⟩
  · exact ⟨rfl, h⟩
  · exact ⟨rfl, h⟩
  · refine ⟨?_, Int.lt_of_lt_of_le h (hk c)⟩
    show (if x < 0 then Value.null else Value.ref (d1.1 c x)) = if x < 0 then Value.null else Value.ref (d.1 c x)
    by_cases h2 : x < 0
    · rw [if_pos h2, if_pos h2]
    · rw [if_neg h2, if_neg h2, ho c x (by omega) h]
  · obtain ⟨e, h3⟩ := ha F o rfl
    exact ⟨congrArg Value.ref e, h3 h⟩
theorem jrel_mv {d d1 : jD} {σ σ1 : jS} {L : List (Option jV)} {Lm : ax_L} (R : jrel d L Lm) (kL : jokL σ L) (ho : ∀ c o, 0 ≤ o → o < rk σ c → d1.1 c o = d.1 c o) (hk : ∀ c, rk σ c ≤ rk σ1 c) (ha : ∀ F o, some (ja F o) ∈ L → d1.2 F o = d.2 F o ∧ (0 ≤ rl σ F o → 0 ≤ rl σ1 F o)) : jrel d1 L Lm ∧ jokL σ1 L := by
  have key : ∀ v, some v ∈ L → jcv d1 v = jcv d v ∧ jok σ1 v := fun v hv => jcv_mv ho hk (fun F o e => ha F o (by rw [← e]; exact hv)) (kL v hv)
  refine ⟨⟨R.1, fun i v hi => ?_⟩, fun v hv => (key v hv).2⟩
  rw [(key v (List.mem_of_getElem? hi)).1]
  exact R.2 i v hi
theorem jS_mv {d d1 : jD} {σ σ1 : jS} {S : List jV} (kS : jokS σ S) (ho : ∀ c o, 0 ≤ o → o < rk σ c → d1.1 c o = d.1 c o) (hk : ∀ c, rk σ c ≤ rk σ1 c) (ha : ∀ F o, ja F o ∈ S → d1.2 F o = d.2 F o ∧ (0 ≤ rl σ F o → 0 ≤ rl σ1 F o)) : S.map (jcv d1) = S.map (jcv d) ∧ jokS σ1 S := by
  have key : ∀ v, v ∈ S → jcv d1 v = jcv d v ∧ jok σ1 v := fun v hv => jcv_mv ho hk (fun F o e => ha F o (by rw [← e]; exact hv)) (kS v hv)
  exact ⟨List.map_congr_left (fun v hv => (key v hv).1), fun v hv => (key v hv).2⟩
theorem raf_nA (σ : jS) (t : Nat) (m : Int) (F : Nat) (o : Int) : ra (nA σ t m) F o = if F = jtmp t ∧ o = 0 then (fun _ => if t = 4 then -1 else 0) else ra σ F o := rfl
theorem rl_nA (σ : jS) (t : Nat) (m : Int) (F : Nat) (o : Int) : rl (nA σ t m) F o = if F = jtmp t ∧ o = 0 then m else rl σ F o := rfl
theorem jVw_nA {d : jD} {σ : jS} {H : ax_H} (V : jVw d σ H) {t k : Nat} {m : Int} (hm : m = (k : Int)) {e : ax_E} (he : e = .inl (t, k, jct d t (fun _ => if t = 4 then -1 else 0))) : jVw (d.1, fun F o => if F = jtmp t ∧ o = 0 then H.1 else d.2 F o) (nA σ t m) (ax_new H k e) := by
  obtain ⟨v1, v2, v3, v4, v5, v6, v7, v8, v9, v10⟩ := V
  refine ⟨fun c x h1 h2 => ?_, fun F p h1 => ?_, v3, fun F o F' o' h1 h2 h3 => ?_, fun c o h1 h2 => ?_, fun F o h1 => ?_, fun F o h1 h2 => ?_, ?_, ?_, ?_⟩
  · obtain ⟨g', e1, e2⟩ := v1 c x h1 h2
    refine ⟨g', ?_, fun j hj => ?_⟩
    · show va_up H.2.2 H.1 e (d.1 c x) = _
      rw [va_up_ne _ _ (Nat.ne_of_lt (v5 c x h1 h2)), e1]
    · rw [e2 j hj]
      have hF := ax_nf_lt hj
      have hne : ¬ (1000 * c + j = jtmp t ∧ x = 0) := fun q => by
        have := q.1
        unfold jtmp at this
        omega
      unfold jfv
      split
      · rfl
      · rw [rl_nA, if_neg hne]
        dsimp only
        rw [if_neg hne]
      · rfl
  · show va_up H.2.2 H.1 e (if F = jtmp t ∧ p = 0 then H.1 else d.2 F p) = _
    rw [rl_nA, raf_nA]
    rw [rl_nA] at h1
    by_cases q : F = jtmp t ∧ p = 0
    · rw [if_pos q, if_pos q, if_pos q, va_up_self, he, hm, q.1, jt_tmp]
      rfl
    · rw [if_neg q, if_neg q, if_neg q]
      rw [if_neg q] at h1
      rw [va_up_ne _ _ (Nat.ne_of_lt (v6 F p h1)), v2 F p h1]
      rfl
  · rw [rl_nA] at h1 h2
    dsimp only at h3
    by_cases q : F = jtmp t ∧ o = 0
    · by_cases q' : F' = jtmp t ∧ o' = 0
      · exact ⟨q.1.trans q'.1.symm, q.2.trans q'.2.symm⟩
      · rw [if_pos q, if_neg q'] at h3
        rw [if_neg q'] at h2
        have := v6 F' o' h2
        omega
    · by_cases q' : F' = jtmp t ∧ o' = 0
      · rw [if_neg q, if_pos q'] at h3
        rw [if_neg q] at h1
        have := v6 F o h1
        omega
      · rw [if_neg q, if_neg q'] at h3
        rw [if_neg q] at h1
        rw [if_neg q'] at h2
        exact v4 F o F' o' h1 h2 h3
  · show d.1 c o < H.1 + 1
    have := v5 c o h1 h2
    omega
  · show (if F = jtmp t ∧ o = 0 then H.1 else d.2 F o) < H.1 + 1
    rw [rl_nA] at h1
    split
    · omega
    · rename_i q
      rw [if_neg q] at h1
      have := v6 F o h1
      omega
  · rw [rl_nA] at h1
    dsimp only at h2
    by_cases q : F = jtmp t ∧ o = 0
    · rw [if_pos q] at h2
      omega
    · rw [if_neg q] at h2 h1
      exact v7 F o h1 h2
  · show ((H.1 + 1 : Nat) : Int) = rc σ + 1
    omega
  · show ((H.2.1 + k : Nat) : Int) = rz σ + m
    omega
  · show 1 ≤ H.1 + 1
    omega
theorem jWF_nA {σ : jS} {t : Nat} {m : Int} (F : jWF σ) (hm : m ≤ 2000000) : jWF (nA σ t m) := by
  obtain ⟨f1, f2, f3, f4, f5, f6, f7⟩ := F
  refine ⟨f1, fun F o i => ?_, f3, fun F o i h => ?_, f5, fun F o => ?_, fun F o h1 h2 => ?_⟩
  · show i32 (ra (nA σ t m) F o i)
    rw [raf_nA]
    split
    · dsimp only
      split <;> exact ⟨by decide, by decide⟩
    · exact f2 F o i
  · show ra (nA σ t m) F o i < rk σ 0
    rw [raf_nA]
    split
    · rename_i q
      rw [q.1, jt_tmp] at h
      dsimp only
      rw [if_pos h]
      have := (f5 0).1
      omega
    · exact f4 F o i h
  · rw [rl_nA]
    split
    · exact hm
    · exact f6 F o
  · rw [rl_nA, if_neg (fun q => by have := q.1; unfold jtmp at this; omega)] at h1
    exact f7 F o h1 h2
theorem jct_z {d : jD} {t : Nat} (h : t < 4) : jct d t (fun _ => if t = 4 then -1 else 0) = if t = 3 then .inr (.inl (fun _ => 0)) else .inl (fun _ => 0) := by
  unfold jct
  by_cases h3 : t = 3
  · rw [if_pos h3, if_pos h3]
    refine congrArg (fun f => (.inr (.inl f) : jC)) (funext fun j => ?_)
    rw [if_neg (by omega)]
    rfl
  · rw [if_neg h3, if_neg h3, if_neg (by omega)]
    refine congrArg (fun f => (.inl f : jC)) (funext fun j => ?_)
    rw [if_neg (by omega)]
    rfl
section JM
variable {n : Nat} {cd : List ax_En} {rt : Option FieldType} {pc pc' : Nat} {L L' : List (Option jV)} {S S' : List jV} {σ : jS} {Q : Option jV → jS → Prop} {a b c : Nat} {x y : Int}
theorem J_nA_s {e : ax_En} {t : Nat} (hf : ax_fd cd pc = some e) (hc : ax_ctl e = 2) (hst : ∀ Lm Sm H, i32 x → 0 ≤ x → x ≤ 2000000 → ∀ d, ax_step e Lm (.int (Int32.ofInt x) :: Sm) H = some (pc', Lm, .ref H.1 :: Sm, ax_new H x.toNat (.inl (t, x.toNat, jct d t (fun _ => if t = 4 then -1 else 0))))) (h0 : 0 ≤ x) (h1 : x ≤ 2000000) (hL : jno (jtmp t) L) (hS : jnoS (jtmp t) S) (k : ∀ σ1, σ1 = nA σ t x → J n cd rt pc' L (ja (jtmp t) 0 :: S) σ1 Q) : J n cd rt pc L (ji x :: S) σ Q :=
  J_heap (σ1 := nA σ t x) (S' := ja (jtmp t) 0 :: S) hf hc (fun d H Lm V F R kL kS => by
    have hx : i32 x := jokS_hd kS
    have hm : ∀ (G : Nat) (o : Int), ¬ G = jtmp t → (fun F o => if F = jtmp t ∧ o = 0 then H.1 else d.2 F o) G o = d.2 G o ∧ (0 ≤ rl σ G o → 0 ≤ rl (nA σ t x) G o) := fun G o hG => by
      dsimp only
      rw [if_neg (fun q => hG q.1), rl_nA, if_neg (fun q => hG q.1)]
      exact ⟨rfl, id⟩
    obtain ⟨r1, r2⟩ := jrel_mv (d1 := (d.1, fun F o => if F = jtmp t ∧ o = 0 then H.1 else d.2 F o)) (σ1 := nA σ t x) R kL (fun _ _ _ _ => rfl) (fun _ => Int.le_refl _) (fun G o hG => hm G o (jno_at hL G o hG))
    obtain ⟨s1, s2⟩ := jS_mv (d := d) (d1 := (d.1, fun F o => if F = jtmp t ∧ o = 0 then H.1 else d.2 F o)) (σ1 := nA σ t x) (jokS_tl kS) (fun _ _ _ _ => rfl) (fun _ => Int.le_refl _) (fun G o hG => hm G o (jnoS_at hS G o hG))
    refine ⟨(d.1, fun F o => if F = jtmp t ∧ o = 0 then H.1 else d.2 F o), _, ?_, jVw_nA (k := x.toNat) V (by omega) rfl, jWF_nA F h1, ⟨fun _ _ _ _ => rfl, fun _ => Int.le_refl _, fun G o hG h => ?_, ?_⟩, r1, r2, jokS_cs s2 ?_⟩
    · rw [show (ji x :: S).map (jcv d) = .int (Int32.ofInt x) :: S.map (jcv d) from rfl, hst Lm _ H hx h0 h1 d]
      rw [show (ja (jtmp t) 0 :: S).map (jcv (d.1, fun F o => if F = jtmp t ∧ o = 0 then H.1 else d.2 F o)) = Value.ref H.1 :: S.map (jcv d) by
        rw [← s1]
        show Value.ref (if jtmp t = jtmp t ∧ (0 : Int) = 0 then H.1 else d.2 (jtmp t) 0) :: _ = _
        rw [if_pos ⟨rfl, rfl⟩]]
    · have h2 := hm G o (fun e => by rw [e, jmv_tmp] at hG; cases hG)
      exact ⟨h2.1, h2.2 h⟩
    · refine ⟨show rc σ ≤ rc σ + 1 by omega, fun (e : rc σ + 1 = rc σ) _ => ?_⟩
      omega
    · show 0 ≤ rl (nA σ t x) (jtmp t) 0
      rw [rl_nA, if_pos ⟨rfl, rfl⟩]
      exact h0) (k _ rfl)
theorem J_newa {at9 : ArrayType} {t : Nat} (hf : ax_fd cd pc = some (pc, .newarray at9, 2, t, b, c)) (ht : t < 4) (h0 : 0 ≤ x) (h1 : x ≤ 2000000) (hL : jno (jtmp t) L) (hS : jnoS (jtmp t) S) (hn : pc + 2 = pc') (k : ∀ σ1, σ1 = nA σ t x → J n cd rt pc' L (ja (jtmp t) 0 :: S) σ1 Q) : J n cd rt pc L (ji x :: S) σ Q :=
  J_nA_s (t := t) (pc' := pc') hf rfl (fun Lm Sm H hx h0 h1 d => by
    show (if ¬ Int32.ofInt x < 0 ∧ (Int32.ofInt x).toNatClampNeg ≤ 2000000 then some (pc + 2, Lm, Value.ref H.1 :: Sm, ax_new H (Int32.ofInt x).toNatClampNeg (.inl (t, (Int32.ofInt x).toNatClampNeg, if t = 3 then .inr (.inl (fun _ => 0)) else .inl (fun _ => 0)))) else none) = _
    rw [j_clamp hx, if_pos ⟨by rw [j_neg hx]; omega, by omega⟩, hn, jct_z ht]) h0 h1 hL hS k
theorem J_anew {idx m : Nat} (hf : ax_fd cd pc = some (pc, .anewarray idx, 3, m, b, c)) (h0 : 0 ≤ x) (h1 : x ≤ 2000000) (hL : jno (jtmp 4) L) (hS : jnoS (jtmp 4) S) (hn : pc + 3 = pc') (k : ∀ σ1, σ1 = nA σ 4 x → J n cd rt pc' L (ja (jtmp 4) 0 :: S) σ1 Q) : J n cd rt pc L (ji x :: S) σ Q :=
  J_nA_s (t := 4) (pc' := pc') hf rfl (fun Lm Sm H hx h0 h1 d => by
    show (if ¬ Int32.ofInt x < 0 ∧ (Int32.ofInt x).toNatClampNeg ≤ 2000000 then some (pc + 3, Lm, Value.ref H.1 :: Sm, ax_new H (Int32.ofInt x).toNatClampNeg (.inl (4, (Int32.ofInt x).toNatClampNeg, .inr (.inr (.inr (.inr (fun _ => none))))))) else none) = _
    rw [j_clamp hx, if_pos ⟨by rw [j_neg hx]; omega, by omega⟩, hn]
    rfl) h0 h1 hL hS k
end JM
theorem jdef_ok : (List.range 100).all (fun k => (List.range (ax_nf k)).all (fun j => match defaultValue (ax_ty k j) with
  | .int v => decide (v = 0) && decide (jk (1000 * k + j) = 0)
  | .null => decide (¬ jk (1000 * k + j) = 0)
  | _ => false)) = true := by decide +kernel
theorem jdef {k j : Nat} (h : j < ax_nf k) : (jk (1000 * k + j) = 0 ∧ defaultValue (ax_ty k j) = .int 0) ∨ (¬ jk (1000 * k + j) = 0 ∧ defaultValue (ax_ty k j) = .null) := by
  have h1 := ax_nf_lt h
  have hk : k < 100 := by
    unfold ax_nf at h
    split at h
    · rename_i q hq
      have := (List.getElem?_eq_some_iff.mp hq).1
      have h2 : ax_cl.length ≤ 100 := by decide
      omega
    · omega
  have h2 := List.all_eq_true.mp (List.all_eq_true.mp jdef_ok k (List.mem_range.mpr hk)) j (List.mem_range.mpr h)
  split at h2
  · rename_i v hv
    rw [Bool.and_eq_true, decide_eq_true_eq, decide_eq_true_eq] at h2
    exact Or.inl ⟨h2.2, by rw [hv, h2.1]⟩
  · rename_i hv
    exact Or.inr ⟨of_decide_eq_true h2, hv⟩
  · cases h2
theorem rs_nO (σ : jS) (k F : Nat) (o : Int) : rs (nO σ k) F o = if F / 1000 = k ∧ o = rk σ k then (if jk F = 0 then 0 else -1) else rs σ F o := rfl
theorem rl_nO (σ : jS) (k F : Nat) (o : Int) : rl (nO σ k) F o = rl σ F o := rfl
theorem raf_nO (σ : jS) (k F : Nat) (o : Int) : ra (nO σ k) F o = ra σ F o := rfl
theorem rk_nO (σ : jS) (k k' : Nat) : rk (nO σ k) k' = if k' = k then rk σ k + 1 else rk σ k' := rfl
theorem jVw_nO {d : jD} {σ : jS} {H : ax_H} (V : jVw d σ H) (F : jWF σ) {k : Nat} : jVw (fun c o => if c = k ∧ o = rk σ k then H.1 else d.1 c o, d.2) (nO σ k) (ax_new H (ax_nf k) (.inr (k, fun j => defaultValue (ax_ty k j)))) := by
  obtain ⟨v1, v2, v3, v4, v5, v6, v7, v8, v9, v10⟩ := V
  obtain ⟨f1, f2, f3, f4, f5, f6, f7⟩ := F
  have hold : ∀ c o, o < rk σ c → ¬ (c = k ∧ o = rk σ k) := fun c o h q => by
    obtain ⟨rfl, rfl⟩ := q
    omega
  have hex : ∀ c o, o < rk (nO σ k) c → (c = k ∧ o = rk σ k) ∨ (¬ (c = k ∧ o = rk σ k) ∧ o < rk σ c) := fun c o h => by
    by_cases q : c = k ∧ o = rk σ k
    · exact Or.inl q
    · refine Or.inr ⟨q, ?_⟩
      rw [rk_nO] at h
      by_cases e : c = k
      · rw [if_pos e] at h
        subst e
        have : ¬ o = rk σ c := fun e2 => q ⟨rfl, e2⟩
        omega
      · rw [if_neg e] at h
        exact h
  refine ⟨fun c o h1 h2 => ?_, fun F o h1 => ?_, fun c o o' h1 h2 h3 h4 h5 => ?_, v4, fun c o h1 h2 => ?_, fun F o h1 => ?_, v7, ?_, ?_, ?_⟩
  · show ∃ g, va_up H.2.2 H.1 _ (if c = k ∧ o = rk σ k then H.1 else d.1 c o) = _ ∧ _
    rcases hex c o h2 with q | ⟨q, h3⟩
    · obtain ⟨rfl, rfl⟩ := q
      refine ⟨fun j => defaultValue (ax_ty c j), by rw [if_pos ⟨rfl, rfl⟩, va_up_self], fun j hj => ?_⟩
      have hn := ax_nf_le c
      have hF : (1000 * c + j) / 1000 = c := by omega
      have hlt := ax_nf_lt hj
      have hneg : rl σ (1000 * c + j) (rk σ c) < 0 := by
        by_cases g : 0 ≤ rl σ (1000 * c + j) (rk σ c)
        · have := f7 _ _ g (ax_nf_lt8 hj)
          rw [hF] at this
          omega
        · omega
      show defaultValue (ax_ty c j) = _
      unfold jfv
      rw [rs_nO, rl_nO, if_pos (show _ ∧ rk σ c = rk σ c from ⟨hF, rfl⟩)]
      rcases jdef hj with ⟨g1, g2⟩ | ⟨g1, g2⟩
      · rw [g1, g2]
        rfl
      · rw [g2, if_neg g1]
        split
        · rename_i g; exact absurd g g1
        · rw [if_pos hneg]
        · rw [if_pos (by decide)]
    · obtain ⟨g', e1, e2⟩ := v1 c o h1 h3
      refine ⟨g', by rw [if_neg q, va_up_ne _ _ (Nat.ne_of_lt (v5 c o h1 h3)), e1], fun j hj => ?_⟩
      rw [e2 j hj]
      have hn := ax_nf_le c
      have hF : ¬ ((1000 * c + j) / 1000 = k ∧ o = rk σ k) := fun g => q ⟨by omega, g.2⟩
      unfold jfv
      rw [rs_nO, rl_nO, if_neg hF]
      split
      · rfl
      · rfl
      · rename_i k0 hk0
        split
        · rfl
        · rename_i g
          dsimp only
          rw [if_neg]
          rintro ⟨rfl, g2⟩
          have := f3 _ o k0 hk0
          omega
  · rw [rl_nO] at h1 ⊢
    show va_up H.2.2 H.1 _ (d.2 F o) = _
    rw [va_up_ne _ _ (Nat.ne_of_lt (v6 F o h1)), v2 F o h1]
    show (Sum.inl (jt F, (rl σ F o).toNat, jct d (jt F) (ra σ F o)) : ax_E) = Sum.inl (jt F, (rl σ F o).toNat, jct _ (jt F) (ra σ F o))
    have : jct (fun c o => if c = k ∧ o = rk σ k then H.1 else d.1 c o, d.2) (jt F) (ra σ F o) = jct d (jt F) (ra σ F o) := by
      unfold jct
      split
      · rfl
      · split
        · rename_i h4
          refine congrArg (fun f => (.inr (.inr (.inr (.inr f))) : jC)) (funext fun j => ?_)
          split
          · rfl
          · rename_i g
            dsimp only
            rw [if_neg]
            rintro ⟨rfl, g2⟩
            have := f4 F o j h4
            omega
        · rfl
    rw [this]
  · dsimp only at h5
    rcases hex c o h2 with q | ⟨q, g1⟩
    · rcases hex c o' h4 with q' | ⟨q', g2⟩
      · exact q.2.trans q'.2.symm
      · rw [if_pos q, if_neg q'] at h5
        have := v5 c o' h3 g2
        omega
    · rcases hex c o' h4 with q' | ⟨q', g2⟩
      · rw [if_neg q, if_pos q'] at h5
        have := v5 c o h1 g1
        omega
      · rw [if_neg q, if_neg q'] at h5
        exact v3 c o o' h1 g1 h3 g2 h5
  · show (if c = k ∧ o = rk σ k then H.1 else d.1 c o) < H.1 + 1
    rcases hex c o h2 with q | ⟨q, g1⟩
    · rw [if_pos q]; omega
    · rw [if_neg q]
      have := v5 c o h1 g1
      omega
  · show d.2 F o < H.1 + 1
    have := v6 F o h1
    omega
  · show ((H.1 + 1 : Nat) : Int) = rc σ + 1
    omega
  · show ((H.2.1 + ax_nf k : Nat) : Int) = rz σ + (ax_nf k : Nat)
    omega
  · show 1 ≤ H.1 + 1
    omega
theorem jWF_nO {σ : jS} {k : Nat} (F : jWF σ) (h : rk σ k < 2000000) : jWF (nO σ k) := by
  obtain ⟨f1, f2, f3, f4, f5, f6, f7⟩ := F
  have hk : ∀ c, rk σ c ≤ rk (nO σ k) c := fun c => by
    rw [rk_nO]
    split
    · rename_i e; subst e; omega
    · omega
  refine ⟨fun F o => ?_, f2, fun F o j hj => ?_, fun F o i hF => Int.lt_of_lt_of_le (f4 F o i hF) (hk 0), fun c => ?_, f6, fun F o h1 h2 => Int.lt_of_lt_of_le (f7 F o h1 h2) (hk _)⟩
  · rw [rs_nO]
    split
    · split <;> exact ⟨by decide, by decide⟩
    · exact f1 F o
  · rw [rs_nO]
    split
    · rw [if_neg (by omega)]
      have := (f5 j).1
      have := hk j
      omega
    · exact Int.lt_of_lt_of_le (f3 F o j hj) (hk j)
  · rw [rk_nO]
    split
    · have := f5 k
      omega
    · exact f5 c
section JN
variable {n : Nat} {cd : List ax_En} {rt : Option FieldType} {pc pc' : Nat} {L L' : List (Option jV)} {S S' : List jV} {σ : jS} {Q : Option jV → jS → Prop} {a b c : Nat} {x y : Int}
theorem J_new {idx k0 : Nat} (hf : ax_fd cd pc = some (pc, .new idx, 3, k0, b, c)) (hr : rk σ k0 < 2000000) (hn : pc + 3 = pc') (k : ∀ σ1, σ1 = nO σ k0 → J n cd rt pc' L (jo k0 (rk σ k0) :: S) σ1 Q) : J n cd rt pc L S σ Q :=
  J_heap (σ1 := nO σ k0) (S' := jo k0 (rk σ k0) :: S) hf rfl (fun d H Lm V F R kL kS => by
    have ho : ∀ c o, 0 ≤ o → o < rk σ c → (if c = k0 ∧ o = rk σ k0 then H.1 else d.1 c o) = d.1 c o := fun c o _ h => if_neg (fun q => by obtain ⟨rfl, rfl⟩ := q; omega)
    have hk : ∀ c, rk σ c ≤ rk (nO σ k0) c := fun c => by
      rw [rk_nO]
      split
      · rename_i e; subst e; omega
      · omega
    obtain ⟨r1, r2⟩ := jrel_mv (d1 := (fun c o => if c = k0 ∧ o = rk σ k0 then H.1 else d.1 c o, d.2)) (σ1 := nO σ k0) R kL ho hk (fun _ _ _ => ⟨rfl, id⟩)
    obtain ⟨s1, s2⟩ := jS_mv (d := d) (d1 := (fun c o => if c = k0 ∧ o = rk σ k0 then H.1 else d.1 c o, d.2)) (σ1 := nO σ k0) kS ho hk (fun _ _ _ => ⟨rfl, id⟩)
    have h0 := (F.2.2.2.2.1 k0).1
    refine ⟨_, _, ?_, jVw_nO (k := k0) V F, jWF_nO F hr, ⟨ho, hk, fun _ _ _ h => ⟨rfl, h⟩, show rc σ ≤ rc σ + 1 by omega, fun (e : rc σ + 1 = rc σ) _ => by omega⟩, r1, r2, jokS_cs s2 ?_⟩
    · show some (pc + 3, Lm, .ref H.1 :: S.map (jcv d), ax_new H (ax_nf k0) (.inr (k0, fun j => defaultValue (ax_ty k0 j)))) = _
      rw [hn, show (jo k0 (rk σ k0) :: S).map (jcv (fun c o => if c = k0 ∧ o = rk σ k0 then H.1 else d.1 c o, d.2)) = Value.ref H.1 :: S.map (jcv d) by
        rw [← s1]
        show jcv _ (jo k0 (rk σ k0)) :: _ = _
        rw [jcv_o h0]
        dsimp only
        rw [if_pos ⟨rfl, rfl⟩]]
    · show rk σ k0 < rk (nO σ k0) k0
      rw [rk_nO, if_pos rfl]
      omega) (k _ rfl)
end JN
