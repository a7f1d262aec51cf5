/-! Nodes of a row of things, laid from its end. -/
abbrev zL : Type := zH × Int × (Int → Int) × List Int
def gset (g : zH) (n h : Int) (ps : List Int) : zH := (fun m => if m = n then h else g.1 m, fun m k => if m = n then ps.getD k 0 else g.2 m k)
def lay1 (t : Int) (s : zL) : zL :=
  if t < 0 then (if s.2.2.1 (-1 - t) = -1 then (gset s.1 s.2.1 (-1) [], s.2.1 + 1, upI s.2.2.1 (-1 - t) s.2.1, s.2.1 :: s.2.2.2) else (s.1, s.2.1, s.2.2.1, s.2.2.1 (-1 - t) :: s.2.2.2))
  else (gset s.1 s.2.1 t (s.2.2.2.take (pN t)), s.2.1 + 1, s.2.2.1, s.2.1 :: s.2.2.2.drop (pN t))
def layR (r : List Int) (g : zH) (N : Int) (vs : Int → Int) : zL := r.foldr lay1 (g, N, vs, [])
/-- each CON's node is its sign and what its parts are -/
def str (g : zH) (N : Int) (ρ : Int → List Int) : Prop := ∀ n, 0 ≤ n → n < N → Typ (ρ n) ∧ (¬ gh g n = -1 → ρ n = gh g n :: ((List.range (pN (gh g n))).map (fun k => ρ (gp g n k))).flatten)
def agr (g g' : zH) (N : Int) : Prop := ∀ n, 0 ≤ n → n < N → gh g' n = gh g n ∧ ∀ k, gp g' n k = gp g n k
def vok (g : zH) (N : Int) (vs : Int → Int) : Prop := ∀ v, vs v = -1 ∨ (0 ≤ vs v ∧ vs v < N ∧ gh g (vs v) = -1)
def upR (ρ : Int → List Int) (N : Int) (x : List Int) : Int → List Int := fun n => if n = N then x else ρ n
theorem upR_eq (ρ : Int → List Int) (N : Int) (x : List Int) (n : Int) : upR ρ N x n = if n = N then x else ρ n := rfl
def unu (vs : Int → Int) : Nat := cnt (fun v => decide (vs v = -1)) (zrg 26)
/-- things of a row -/
def thg (t : Int) : Prop := -26 ≤ t ∧ t < 104
theorem gh_new {g : zH} {n h : Int} {ps : List Int} : gh (gset g n h ps) n = h := if_pos rfl
theorem gh_old {g : zH} {n h m : Int} {ps : List Int} (e : ¬ m = n) : gh (gset g n h ps) m = gh g m := if_neg e
theorem gp_new {g : zH} {n h : Int} {ps : List Int} {k : Nat} : gp (gset g n h ps) n k = ps.getD k 0 := if_pos rfl
theorem gp_old {g : zH} {n h m : Int} {ps : List Int} {k : Nat} (e : ¬ m = n) : gp (gset g n h ps) m k = gp g m k := if_neg e
theorem agr.rf (g : zH) (N : Int) : agr g g N := fun _ _ _ => ⟨rfl, fun _ => rfl⟩
theorem agr.tr {g g1 g2 : zH} {N N1 : Int} (h : agr g g1 N) (h' : agr g1 g2 N1) (hN : N ≤ N1) : agr g g2 N := fun n h0 h1 => ⟨(h' n h0 (by omega)).1.trans (h n h0 h1).1, fun k => ((h' n h0 (by omega)).2 k).trans ((h n h0 h1).2 k)⟩
theorem agr_set {g : zH} {N h : Int} {ps : List Int} : agr g (gset g N h ps) N := fun n h0 h1 => ⟨gh_old (by omega), fun k => gp_old (by omega)⟩
theorem zok_set {g : zH} {N h : Int} {ps : List Int} (hz : zok g N) (hh : h = -1 ∨ (0 ≤ h ∧ h < 104)) (hp : ∀ k, k < pN h → 0 ≤ ps.getD k 0 ∧ ps.getD k 0 < N) : zok (gset g N h ps) (N + 1) := fun n h0 h1 => by
  by_cases e : n = N
  · subst e
    rw [gh_new]
    exact ⟨hh, fun k hk => by rw [gp_new]; exact hp k hk⟩
  · rw [gh_old e]
    exact ⟨(hz n h0 (by omega)).1, fun k hk => by rw [gp_old e]; exact (hz n h0 (by omega)).2 k hk⟩
theorem zrg_s {N : Int} (h : 0 ≤ N) : zrg (N + 1) = zrg N ++ [N] := by
  unfold zrg
  rw [show (N + 1).toNat = N.toNat + 1 by omega, List.range_succ, List.map_append]
  congr 1
  simp
  omega
theorem cnt_app {p : Int → Bool} : ∀ (l m : List Int), cnt p (l ++ m) = cnt p l + cnt p m := by
  intro l m
  induction l with
  | nil => show cnt p m = 0 + cnt p m; omega
  | cons a l ih => show cnt p (l ++ m) + (if p a = true then 1 else 0) = cnt p l + (if p a = true then 1 else 0) + cnt p m; rw [ih]; omega
theorem cnt_congr {p q : Int → Bool} : ∀ {l : List Int}, (∀ a, a ∈ l → p a = q a) → cnt p l = cnt q l := by
  intro l
  induction l with
  | nil => intro _; rfl
  | cons a l ih => intro h; unfold cnt; rw [ih (fun b hb => h b (List.mem_cons_of_mem _ hb)), h a List.mem_cons_self]
theorem mem_zrg_iff {N n : Int} : n ∈ zrg N ↔ 0 ≤ n ∧ n < N := by
  constructor
  · intro h
    obtain ⟨i, hi, e⟩ := List.mem_map.mp h
    have := List.mem_range.mp hi
    omega
  · exact fun h => mem_zrg h.1 h.2
theorem zu_set {g : zH} {N h : Int} {ps : List Int} (h0 : 0 ≤ N) : zu (gset g N h ps) (N + 1) = zu g N + (if h = -1 then 1 else 0) := by
  unfold zu
  rw [zrg_s h0, cnt_app]
  have e1 : cnt (fun n => decide (gh (gset g N h ps) n = -1)) (zrg N) = cnt (fun n => decide (gh g n = -1)) (zrg N) := cnt_congr (fun a ha => by
    have := mem_zrg_iff.mp ha
    rw [gh_old (by omega)])
  rw [e1]
  congr 1
  unfold cnt
  rw [gh_new]
  by_cases e : h = -1
  · rw [if_pos e, if_pos (decide_eq_true e)]; rfl
  · rw [if_neg e, if_neg (fun q => e (of_decide_eq_true q))]; rfl
theorem cnt_upI : ∀ {l : List Int} {vs : Int → Int} {v n : Int}, l.Nodup → v ∈ l → vs v = -1 → ¬ n = -1 → cnt (fun w => decide (vs w = -1)) l = cnt (fun w => decide (upI vs v n w = -1)) l + 1 := by
  intro l
  induction l with
  | nil => intro _ _ _ _ h; cases h
  | cons a l ih =>
    intro vs v n hn hv he hne
    rw [List.nodup_cons] at hn
    have ev : ∀ w, upI vs v n w = if w = v then n else vs w := fun _ => rfl
    unfold cnt
    rcases List.mem_cons.mp hv with e | e
    · subst e
      have : cnt (fun w => decide (upI vs v n w = -1)) l = cnt (fun w => decide (vs w = -1)) l := cnt_congr (fun a ha => by
        rw [ev, if_neg (fun q => hn.1 (by rw [← q]; exact ha))])
      rw [this, if_pos (decide_eq_true he), if_neg (fun q => by
        have := of_decide_eq_true q
        rw [ev, if_pos rfl] at this
        exact hne this)]
    · rw [ih hn.2 e he hne]
      have : upI vs v n a = vs a := by rw [ev, if_neg (fun q => hn.1 (by rw [q]; exact e))]
      rw [this]
      omega
theorem zrg_nodup (N : Int) : (zrg N).Nodup := by
  unfold zrg
  exact List.Pairwise.map _ (fun a b h => by omega) List.nodup_range
theorem unu_up {vs : Int → Int} {v n : Int} (h0 : 0 ≤ v) (h1 : v < 26) (he : vs v = -1) (hn : ¬ n = -1) : unu vs = unu (upI vs v n) + 1 := cnt_upI (zrg_nodup 26) (mem_zrg h0 h1) he hn
/-- what holds when the rest l of a row has been laid -/
def lok (g0 : zH) (N0 : Int) (vs0 : Int → Int) (l : List Int) (g : zH) (N : Int) (vs : Int → Int) (pile : List Int) : Prop :=
  N0 ≤ N ∧ N ≤ N0 + (l.length : Nat) ∧ agr g0 g N0 ∧ zok g N ∧ vok g N vs ∧ (∀ v, ¬ vs0 v = -1 → vs v = vs0 v) ∧ (∀ v, ¬ vs v = -1 → vs0 v = -1 → N0 ≤ vs v) ∧
  (∀ t, t ∈ l → t < 0 → ¬ vs (-1 - t) = -1) ∧ rdk l pile.length = some [] ∧ (∀ n, n ∈ pile → 0 ≤ n ∧ n < N) ∧
  (∀ ρ, str g N ρ → (pile.map ρ).flatten = sbt (fun t => ρ (vs (-1 - t))) l) ∧
  zu g N + unu vs = zu g0 N0 + unu vs0 ∧
  (∀ (ρ0 : Int → List Int) (θ : Int → List Int), str g0 N0 ρ0 → (∀ v, Typ (θ v)) → (∀ v, ¬ vs0 v = -1 → ρ0 (vs0 v) = θ v) → ∃ ρ, str g N ρ ∧ (∀ n, n < N0 → ρ n = ρ0 n) ∧ ∀ v, ¬ vs v = -1 → ρ (vs v) = θ v) ∧
  (∀ P : Int → Prop, (∀ v, ¬ vs v = -1 → P (vs v)) → (∀ n, N0 ≤ n → P n) → (∀ n, N0 ≤ n → n < N → ∀ k, k < pN (gh g n) → P (gp g n k)) ∧ ∀ n, n ∈ pile → P n)
section ZY
variable {g g0 : zH} {N N0 : Int} {vs vs0 : Int → Int} {ρ : Int → List Int}
theorem str_low {g' : zH} {N' : Int} (ha : agr g g' N) (hN : N ≤ N') (hz : zok g N) (h : str g' N' ρ) : str g N ρ := fun n h0 h1 => by
  obtain ⟨a1, a2⟩ := h n h0 (by omega)
  obtain ⟨b1, b2⟩ := ha n h0 h1
  rw [b1] at a2
  refine ⟨a1, fun hu => ?_⟩
  rw [a2 hu]
  exact congrArg _ (flat_congr (fun k _ => by rw [b2 k]))
theorem str_set {h : Int} {ps : List Int} {x : List Int} (hz : zok g N) (hN : 0 ≤ N) (hs : str g N ρ) (hp : ∀ k, k < pN h → 0 ≤ ps.getD k 0 ∧ ps.getD k 0 < N) (hx : Typ x) (hx2 : ¬ h = -1 → x = h :: ((List.range (pN h)).map (fun k => ρ (ps.getD k 0))).flatten) : str (gset g N h ps) (N + 1) (upR ρ N x) := fun n h0 h1 => by
  by_cases e : n = N
  · subst e
    rw [upR_eq, if_pos rfl, gh_new]
    refine ⟨hx, fun hu => ?_⟩
    rw [hx2 hu]
    exact congrArg _ (flat_congr (fun k hk => by rw [gp_new, upR_eq, if_neg (by have := hp k hk; omega)]))
  · rw [upR_eq, if_neg e, gh_old e]
    refine ⟨(hs n h0 (by omega)).1, fun hu => ?_⟩
    rw [(hs n h0 (by omega)).2 hu]
    exact congrArg _ (flat_congr (fun k hk => by rw [gp_old e, upR_eq, if_neg (by have := (hz n h0 (by omega)).2 k hk; omega)]))
theorem take_map (f : Int → List Int) (ps : List Int) (m : Nat) (h : m ≤ ps.length) : (List.range m).map (fun k => f ((ps.take m).getD k 0)) = (ps.take m).map f := by
  refine List.ext_getElem (by simp; omega) (fun i h1 h2 => ?_)
  simp at h1
  simp [List.getD, h1, List.getElem?_take]
  rw [List.getElem?_eq_getElem (by omega)]
  rfl
theorem rdk_len : ∀ {l : List Int} {k : Nat}, rdk l k = some [] → k ≤ l.length := by
  intro l
  induction l with
  | nil =>
    intro k h
    cases k with
    | zero => exact Nat.le_refl _
    | succ k => cases h
  | cons t l ih =>
    intro k h
    cases k with
    | zero => exact Nat.zero_le _
    | succ k =>
      have := ih (k := k + pN t) h
      rw [List.length_cons]; omega
theorem lok_nil (hz : zok g N) (hv : vok g N vs) (hN : 0 ≤ N) : lok g N vs [] g N vs [] := by
  refine ⟨Int.le_refl _, by simp, agr.rf g N, hz, hv, fun _ _ => rfl, fun v h1 h2 => absurd h2 h1, fun t ht => (by cases ht), rfl, fun n hn => (by cases hn), fun ρ _ => rfl, rfl, fun ρ0 θ hs _ hv => ⟨ρ0, hs, fun _ _ => rfl, hv⟩, fun P hv hP => ⟨fun n h0 h1 => absurd h1 (by omega), fun n hn => (by cases hn)⟩⟩
theorem lok_cons {t : Int} {l : List Int} {pile : List Int} (hN : 0 ≤ N0) (h : lok g0 N0 vs0 l g N vs pile) (ht : thg t) (hk : pN t ≤ pile.length) : lok g0 N0 vs0 (t :: l) (lay1 t (g, N, vs, pile)).1 (lay1 t (g, N, vs, pile)).2.1 (lay1 t (g, N, vs, pile)).2.2.1 (lay1 t (g, N, vs, pile)).2.2.2 := by
  obtain ⟨h1, h2, h3, h4, h5, h6, h6b, h7, h8, h9, h10, h11, h12, h13⟩ := h
  have hN1 : 0 ≤ N := by omega
  unfold lay1
  dsimp only
  by_cases q : t < 0
  · rw [if_pos q]
    have ep : pN t = 0 := by unfold pN; rw [if_pos q]
    have v0 : 0 ≤ -1 - t ∧ -1 - t < 26 := by unfold thg at ht; omega
    by_cases qv : vs (-1 - t) = -1
    · rw [if_pos qv]
      show lok g0 N0 vs0 (t :: l) (gset g N (-1) []) (N + 1) (upI vs (-1 - t) N) (N :: pile)
      have eu : ∀ w, upI vs (-1 - t) N w = if w = -1 - t then N else vs w := fun _ => rfl
      have hp0 : ∀ k, k < pN (-1) → 0 ≤ ([] : List Int).getD k 0 ∧ ([] : List Int).getD k 0 < N := fun k hk => absurd hk (Nat.not_lt_zero k)
      refine ⟨by omega, by rw [List.length_cons]; omega, h3.tr agr_set h1, zok_set h4 (Or.inl rfl) hp0, fun v => ?_, fun v hv => ?_, fun v hv hv0 => ?_, fun t' ht' hn => ?_, ?_, fun n hn => ?_, fun ρ hρ => ?_, ?_, fun ρ0 θ hs hθ hv => ?_, fun P hv hP => ?_⟩
      · rw [eu]
        by_cases e : v = -1 - t
        · rw [if_pos e]; exact Or.inr ⟨by omega, by omega, gh_new⟩
        · rw [if_neg e]
          rcases h5 v with w | ⟨w1, w2, w3⟩
          · exact Or.inl w
          · exact Or.inr ⟨w1, by omega, by rw [gh_old (by omega)]; exact w3⟩
      · rw [eu, if_neg (fun e => hv (by rw [e] at hv ⊢; have := h6 _ hv; rw [qv] at this; exact this.symm))]
        exact h6 v hv
      · rw [eu] at hv ⊢
        by_cases e : v = -1 - t
        · rw [if_pos e]; exact h1
        · rw [if_neg e] at hv ⊢; exact h6b v hv hv0
      · rw [eu]
        by_cases e : -1 - t' = -1 - t
        · rw [if_pos e]; omega
        · rw [if_neg e]
          rcases List.mem_cons.mp ht' with w | w
          · exact absurd (by rw [w]) e
          · exact h7 t' w hn
      · rw [List.length_cons]
        show rdk l (pile.length + pN t) = some []
        rw [ep]
        exact h8
      · rcases List.mem_cons.mp hn with w | w
        · rw [w]; omega
        · have := h9 n w; omega
      · have hlow : str g N ρ := str_low agr_set (by omega) h4 hρ
        rw [List.map_cons, List.flatten_cons, h10 ρ hlow, sbt_cons_v q]
        rw [eu, if_pos rfl]
        congr 1
        have : ∀ l' : List Int, (∀ t', t' ∈ l' → t' < 0 → ¬ vs (-1 - t') = -1) → sbt (fun t => ρ (vs (-1 - t))) l' = sbt (fun t' => ρ (upI vs (-1 - t) N (-1 - t'))) l' := by
          intro l'
          induction l' with
          | nil => intro _; rfl
          | cons a l' ih =>
            intro hl'
            have ih := ih (fun t' ht' => hl' t' (List.mem_cons_of_mem _ ht'))
            by_cases qa : a < 0
            · rw [sbt_cons_v qa, sbt_cons_v qa, ih, eu, if_neg (fun e => hl' a List.mem_cons_self qa (by rw [e]; exact qv))]
            · rw [sbt_cons_c qa, sbt_cons_c qa, ih]
        exact this l h7
      · rw [zu_set hN1, if_pos rfl]
        have := unu_up (n := N) v0.1 v0.2 qv (by omega)
        omega
      · obtain ⟨ρ, r1, r2, r3⟩ := h12 ρ0 θ hs hθ hv
        refine ⟨upR ρ N (θ (-1 - t)), str_set h4 hN1 r1 hp0 (hθ _) (fun w => absurd rfl w), fun n hn => ?_, fun v hv' => ?_⟩
        · rw [upR_eq, if_neg (by omega)]; exact r2 n hn
        · rw [eu] at hv' ⊢
          by_cases e : v = -1 - t
          · rw [if_pos e, upR_eq, if_pos rfl, e]
          · rw [if_neg e] at hv' ⊢
            rcases h5 v with w | ⟨w1, w2, w3⟩
            · exact absurd w hv'
            · rw [upR_eq, if_neg (by omega)]; exact r3 v hv'
      · have hv2 : ∀ v, ¬ vs v = -1 → P (vs v) := fun v hv' => by
          have := hv v
          rw [eu] at this
          by_cases e : v = -1 - t
          · rw [e] at hv'; exact absurd qv hv'
          · rw [if_neg e] at this; exact this hv'
        obtain ⟨p1, p2⟩ := h13 P hv2 hP
        refine ⟨fun n n0 n1 k hk => ?_, fun n hn => ?_⟩
        · by_cases e : n = N
          · rw [e, gh_new] at hk; exact absurd hk (Nat.not_lt_zero k)
          · rw [gh_old e] at hk; rw [gp_old e]; exact p1 n n0 (by omega) k hk
        · rcases List.mem_cons.mp hn with w | w
          · rw [w]; exact hP N h1
          · exact p2 n w
    · rw [if_neg qv]
      show lok g0 N0 vs0 (t :: l) g N vs (vs (-1 - t) :: pile)
      obtain ⟨w1, w2, w3⟩ := (h5 (-1 - t)).resolve_left qv
      refine ⟨h1, by rw [List.length_cons]; omega, h3, h4, h5, h6, h6b, fun t' ht' hn => ?_, ?_, fun n hn => ?_, fun ρ hρ => ?_, h11, h12, fun P hv hP => ?_⟩
      · rcases List.mem_cons.mp ht' with w | w
        · rw [w]; exact qv
        · exact h7 t' w hn
      · rw [List.length_cons]
        show rdk l (pile.length + pN t) = some []
        rw [ep]
        exact h8
      · rcases List.mem_cons.mp hn with w | w
        · rw [w]; exact ⟨w1, w2⟩
        · exact h9 n w
      · rw [List.map_cons, List.flatten_cons, h10 ρ hρ, sbt_cons_v q]
      · obtain ⟨p1, p2⟩ := h13 P hv hP
        refine ⟨p1, fun n hn => ?_⟩
        rcases List.mem_cons.mp hn with w | w
        · rw [w]; exact hv _ qv
        · exact p2 n w
  · rw [if_neg q]
    show lok g0 N0 vs0 (t :: l) (gset g N t (pile.take (pN t))) (N + 1) vs (N :: pile.drop (pN t))
    have hget : ∀ k, k < pN t → (pile.take (pN t)).getD k 0 ∈ pile := fun k hk => by
      have : k < (pile.take (pN t)).length := by simp; omega
      show ((pile.take (pN t))[k]?).getD 0 ∈ pile
      rw [List.getElem?_eq_getElem this]
      exact List.mem_of_mem_take (List.getElem_mem this)
    have hp : ∀ k, k < pN t → 0 ≤ (pile.take (pN t)).getD k 0 ∧ (pile.take (pN t)).getD k 0 < N := fun k hk => h9 _ (hget k hk)
    have hh : t = -1 ∨ (0 ≤ t ∧ t < 104) := Or.inr ⟨by omega, ht.2⟩
    have sp : ∀ ρ : Int → List Int, (pile.map ρ).flatten = ((pile.take (pN t)).map ρ).flatten ++ ((pile.drop (pN t)).map ρ).flatten := fun ρ => by
      rw [← List.flatten_append, ← List.map_append, List.take_append_drop]
    refine ⟨by omega, by rw [List.length_cons]; omega, h3.tr agr_set h1, zok_set h4 hh hp, fun v => ?_, h6, h6b, fun t' ht' hn => ?_, ?_, fun n hn => ?_, fun ρ hρ => ?_, ?_, fun ρ0 θ hs hθ hv => ?_, fun P hv hP => ?_⟩
    · rcases h5 v with w | ⟨w1, w2, w3⟩
      · exact Or.inl w
      · exact Or.inr ⟨w1, by omega, by rw [gh_old (by omega)]; exact w3⟩
    · rcases List.mem_cons.mp ht' with w | w
      · omega
      · exact h7 t' w hn
    · rw [List.length_cons, List.length_drop]
      show rdk l (pile.length - pN t + pN t) = some []
      rw [show pile.length - pN t + pN t = pile.length by omega]
      exact h8
    · rcases List.mem_cons.mp hn with w | w
      · rw [w]; omega
      · have := h9 n (List.mem_of_mem_drop w); omega
    · have hlow : str g N ρ := str_low agr_set (by omega) h4 hρ
      have e1 := (hρ N hN1 (by omega)).2 (by rw [gh_new]; omega)
      rw [gh_new] at e1
      have e2 : ((List.range (pN t)).map (fun k => ρ (gp (gset g N t (pile.take (pN t))) N k))) = (pile.take (pN t)).map ρ := by
        rw [← take_map ρ pile (pN t) hk]
        exact List.map_congr_left (fun k _ => by rw [gp_new])
      rw [e2] at e1
      rw [List.map_cons, List.flatten_cons, e1, sbt_cons_c q, ← h10 ρ hlow, sp ρ]
      rfl
    · rw [zu_set hN1, if_neg (by omega)]
      exact h11
    · obtain ⟨ρ, r1, r2, r3⟩ := h12 ρ0 θ hs hθ hv
      have hT : Typ (t :: ((List.range (pN t)).map (fun k => ρ ((pile.take (pN t)).getD k 0))).flatten) := Typ_node (fun k hk => (r1 _ (hp k hk).1 (hp k hk).2).1)
      refine ⟨upR ρ N (t :: ((List.range (pN t)).map (fun k => ρ ((pile.take (pN t)).getD k 0))).flatten), str_set h4 hN1 r1 hp hT (fun _ => rfl), fun n hn => ?_, fun v hv' => ?_⟩
      · rw [upR_eq, if_neg (by omega)]; exact r2 n hn
      · rcases h5 v with w | ⟨w1, w2, w3⟩
        · exact absurd w hv'
        · rw [upR_eq, if_neg (by omega)]; exact r3 v hv'
    · obtain ⟨p1, p2⟩ := h13 P hv hP
      refine ⟨fun n n0 n1 k hk => ?_, fun n hn => ?_⟩
      · by_cases e : n = N
        · rw [e, gh_new] at hk
          rw [e, gp_new]
          exact p2 _ (hget k hk)
        · rw [gh_old e] at hk; rw [gp_old e]; exact p1 n n0 (by omega) k hk
      · rcases List.mem_cons.mp hn with w | w
        · rw [w]; exact hP N h1
        · exact p2 n (List.mem_of_mem_drop w)
end ZY
