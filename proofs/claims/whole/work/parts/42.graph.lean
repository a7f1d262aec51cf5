/-! Types as nodes: what each comes to under what is put for unknowns. -/
abbrev zH : Type := (Int → Int) × (Int → Nat → Int)
def gh (g : zH) (n : Int) : Int := g.1 n
def gp (g : zH) (n : Int) (k : Nat) : Int := g.2 n k
/-- what is put for an unknown (-1: nothing) -/
def bl : List (Int × Int) → Int → Int
  | [], _ => -1
  | (u, t) :: β, n => if n = u then t else bl β n
def zok (g : zH) (N : Int) : Prop := ∀ n, 0 ≤ n → n < N → (gh g n = -1 ∨ (0 ≤ gh g n ∧ gh g n < 104)) ∧ ∀ k, k < pN (gh g n) → 0 ≤ gp g n k ∧ gp g n k < n
def bok (g : zH) (N : Int) : List (Int × Int) → Prop
  | [] => True
  | (u, t) :: β => (0 ≤ u ∧ u < N ∧ gh g u = -1 ∧ 0 ≤ t ∧ t < N ∧ bl β u = -1) ∧ bok g N β
def rkd (g : zH) (N : Int) (β : List (Int × Int)) (r : Int → Nat) : Prop := ∀ n, 0 ≤ n → n < N → (∀ k, k < pN (gh g n) → r (gp g n k) < r n) ∧ (gh g n = -1 → ¬ bl β n = -1 → r (bl β n) < r n)
def acy (g : zH) (N : Int) (β : List (Int × Int)) : Prop := ∃ r, rkd g N β r
def sol (g : zH) (N : Int) (β : List (Int × Int)) (ρ : Int → List Int) : Prop := ∀ n, 0 ≤ n → n < N → Typ (ρ n) ∧ (¬ gh g n = -1 → ρ n = gh g n :: ((List.range (pN (gh g n))).map (fun k => ρ (gp g n k))).flatten) ∧ (gh g n = -1 → ¬ bl β n = -1 → ρ n = ρ (bl β n))
def exF (g : zH) (β : List (Int × Int)) : Nat → Int → List Int
  | 0, _ => []
  | f + 1, n => if gh g n = -1 then (if bl β n = -1 then [-1 - n] else exF g β f (bl β n)) else gh g n :: ((List.range (pN (gh g n))).map (fun k => exF g β f (gp g n k))).flatten
def ex (g : zH) (N : Int) (β : List (Int × Int)) (n : Int) : List Int := exF g β (N.toNat + 1) n
def svF (g : zH) (β : List (Int × Int)) : Nat → Int → Int
  | 0, n => n
  | f + 1, n => if gh g n = -1 ∧ ¬ bl β n = -1 then svF g β f (bl β n) else n
def sv (g : zH) (N : Int) (β : List (Int × Int)) (n : Int) : Int := svF g β N.toNat n
/-- how many of a row -/
def cnt (p : Int → Bool) : List Int → Nat
  | [] => 0
  | a :: l => cnt p l + (if p a = true then 1 else 0)
theorem cnt_le {p q : Int → Bool} : ∀ {l : List Int}, (∀ a, a ∈ l → p a = true → q a = true) → cnt p l ≤ cnt q l := by
  intro l
  induction l with
  | nil => intro _; exact Nat.le_refl _
  | cons a l ih =>
    intro h
    have := ih (fun b hb => h b (List.mem_cons_of_mem _ hb))
    have h2 := h a List.mem_cons_self
    unfold cnt
    by_cases e : p a = true
    · rw [if_pos e, if_pos (h2 e)]; omega
    · rw [if_neg e]; split <;> omega
theorem cnt_lt {p q : Int → Bool} : ∀ {l : List Int}, (∀ a, a ∈ l → p a = true → q a = true) → ∀ {b : Int}, b ∈ l → q b = true → ¬ p b = true → cnt p l < cnt q l := by
  intro l
  induction l with
  | nil => intro _ b hb; cases hb
  | cons a l ih =>
    intro h b hb h1 h2
    have hl : ∀ c, c ∈ l → p c = true → q c = true := fun c hc => h c (List.mem_cons_of_mem _ hc)
    have ha := h a List.mem_cons_self
    rcases List.mem_cons.mp hb with e | e
    · subst e
      have := cnt_le hl
      unfold cnt
      rw [if_neg h2, if_pos h1]; omega
    · have := ih hl e h1 h2
      unfold cnt
      by_cases e : p a = true
      · rw [if_pos e, if_pos (ha e)]; omega
      · rw [if_neg e]; split <;> omega
theorem cnt_len {p : Int → Bool} : ∀ {l : List Int}, cnt p l ≤ l.length := by
  intro l
  induction l with
  | nil => exact Nat.le_refl _
  | cons a l ih => unfold cnt; rw [List.length_cons]; split <;> omega
theorem cnt_ltl {p : Int → Bool} {l : List Int} {b : Int} (hb : b ∈ l) (h : ¬ p b = true) : cnt p l < l.length := by
  have h2 : cnt (fun _ => true) l = l.length := by
    clear hb
    induction l with
    | nil => rfl
    | cons a l ih => unfold cnt; rw [ih]; rfl
  rw [← h2]
  exact cnt_lt (fun _ _ _ => rfl) hb rfl h
def zrg (N : Int) : List Int := (List.range N.toNat).map (fun (i : Nat) => (i : Int))
theorem mem_zrg {N n : Int} (h0 : 0 ≤ n) (h : n < N) : n ∈ zrg N := List.mem_map.mpr ⟨n.toNat, List.mem_range.mpr (by omega), by omega⟩
theorem zrg_len (N : Int) : (zrg N).length = N.toNat := by unfold zrg; simp
section ZG
variable {g : zH} {N : Int} {β : List (Int × Int)} {r : Int → Nat} {n u t : Int}
theorem bok_at : ∀ {β : List (Int × Int)}, bok g N β → ¬ bl β n = -1 → 0 ≤ n ∧ n < N ∧ gh g n = -1 ∧ 0 ≤ bl β n ∧ bl β n < N := by
  intro β
  induction β with
  | nil => intro _ h; exact absurd rfl h
  | cons a β ih =>
    obtain ⟨u, t⟩ := a
    intro hb h
    unfold bl at h ⊢
    obtain ⟨⟨h1, h2, h3, h4, h5, h6⟩, hb⟩ := hb
    by_cases e : n = u
    · rw [if_pos e, e]; exact ⟨h1, h2, h3, h4, h5⟩
    · rw [if_neg e] at h ⊢; exact ih hb h
theorem acy_norm (hz : zok g N) (hb : bok g N β) (h : acy g N β) : ∃ r, rkd g N β r ∧ ∀ n, 0 ≤ n → n < N → r n < N.toNat := by
  obtain ⟨r, hr⟩ := h
  have key : ∀ a b, 0 ≤ a → a < N → r a < r b → cnt (fun m => decide (r m < r a)) (zrg N) < cnt (fun m => decide (r m < r b)) (zrg N) := fun a b h0 h1 h =>
    cnt_lt (fun m _ hm => decide_eq_true (by have := of_decide_eq_true hm; omega)) (mem_zrg h0 h1) (decide_eq_true h) (fun q => absurd (of_decide_eq_true q) (by omega))
  refine ⟨fun n => cnt (fun m => decide (r m < r n)) (zrg N), fun n h0 h1 => ⟨fun k hk => ?_, fun hu hn => ?_⟩, fun n h0 h1 => ?_⟩
  · have := (hz n h0 h1).2 k hk
    exact key _ _ this.1 (by omega) ((hr n h0 h1).1 k hk)
  · obtain ⟨-, -, -, b1, b2⟩ := bok_at hb hn
    exact key _ _ b1 b2 ((hr n h0 h1).2 hu hn)
  · have := cnt_ltl (p := fun m => decide (r m < r n)) (mem_zrg h0 h1) (fun q => absurd (of_decide_eq_true q) (by omega))
    rw [zrg_len] at this
    exact this
theorem flat_congr {f f' : Nat → List Int} {m : Nat} (h : ∀ k, k < m → f k = f' k) : ((List.range m).map f).flatten = ((List.range m).map f').flatten := by
  rw [List.map_congr_left (fun k hk => h k (List.mem_range.mp hk))]
theorem exF_st (hz : zok g N) (hb : bok g N β) (hr : rkd g N β r) : ∀ f f' n, 0 ≤ n → n < N → r n < f → r n < f' → exF g β f n = exF g β f' n := by
  intro f
  induction f with
  | zero => intro f' n _ _ h; omega
  | succ f ih =>
    intro f' n h0 h1 h h'
    cases f' with
    | zero => omega
    | succ f' =>
      unfold exF
      by_cases q : gh g n = -1
      · rw [if_pos q, if_pos q]
        by_cases q2 : bl β n = -1
        · rw [if_pos q2, if_pos q2]
        · rw [if_neg q2, if_neg q2]
          obtain ⟨-, -, -, b1, b2⟩ := bok_at hb q2
          have := (hr n h0 h1).2 q q2
          exact ih f' _ b1 b2 (by omega) (by omega)
      · rw [if_neg q, if_neg q]
        refine congrArg _ (flat_congr (fun k hk => ?_))
        have := (hz n h0 h1).2 k hk
        have := (hr n h0 h1).1 k hk
        exact ih f' _ (by omega) (by omega) (by omega) (by omega)
/-- what a node comes to -/
theorem ex_eq (hz : zok g N) (hb : bok g N β) (ha : acy g N β) (h0 : 0 ≤ n) (h1 : n < N) : ex g N β n = if gh g n = -1 then (if bl β n = -1 then [-1 - n] else ex g N β (bl β n)) else gh g n :: ((List.range (pN (gh g n))).map (fun k => ex g N β (gp g n k))).flatten := by
  obtain ⟨r, hr, hn⟩ := acy_norm hz hb ha
  have hn0 := hn n h0 h1
  show exF g β (N.toNat + 1) n = _
  unfold exF
  by_cases q : gh g n = -1
  · rw [if_pos q, if_pos q]
    by_cases q2 : bl β n = -1
    · rw [if_pos q2, if_pos q2]
    · rw [if_neg q2, if_neg q2]
      obtain ⟨-, -, -, b1, b2⟩ := bok_at hb q2
      have := (hr n h0 h1).2 q q2
      exact exF_st hz hb hr _ _ _ b1 b2 (by omega) (by have := hn _ b1 b2; omega)
  · rw [if_neg q, if_neg q]
    refine congrArg _ (flat_congr (fun k hk => ?_))
    have h2 := (hz n h0 h1).2 k hk
    have := (hr n h0 h1).1 k hk
    exact exF_st hz hb hr _ _ _ (by omega) (by omega) (by omega) (by have := hn (gp g n k) (by omega) (by omega); omega)
theorem ex_un (hz : zok g N) (hb : bok g N β) (ha : acy g N β) (h0 : 0 ≤ n) (h1 : n < N) (hu : gh g n = -1) (hf : bl β n = -1) : ex g N β n = [-1 - n] := by
  rw [ex_eq hz hb ha h0 h1, if_pos hu, if_pos hf]
theorem ex_bd (hz : zok g N) (hb : bok g N β) (ha : acy g N β) (h : ¬ bl β n = -1) : ex g N β n = ex g N β (bl β n) := by
  obtain ⟨h0, h1, hu, -, -⟩ := bok_at hb h
  rw [ex_eq hz hb ha h0 h1, if_pos hu, if_neg h]
theorem ex_con (hz : zok g N) (hb : bok g N β) (ha : acy g N β) (h0 : 0 ≤ n) (h1 : n < N) (hu : ¬ gh g n = -1) : ex g N β n = gh g n :: ((List.range (pN (gh g n))).map (fun k => ex g N β (gp g n k))).flatten := by
  rw [ex_eq hz hb ha h0 h1, if_neg hu]
/-- induction along what stands below -/
theorem zind (hz : zok g N) (hb : bok g N β) (ha : acy g N β) {P : Int → Prop} (h1 : ∀ n, 0 ≤ n → n < N → gh g n = -1 → bl β n = -1 → P n) (h2 : ∀ n, 0 ≤ n → n < N → gh g n = -1 → ¬ bl β n = -1 → 0 ≤ bl β n → bl β n < N → P (bl β n) → P n) (h3 : ∀ n, 0 ≤ n → n < N → ¬ gh g n = -1 → (∀ k, k < pN (gh g n) → 0 ≤ gp g n k → gp g n k < N → P (gp g n k)) → P n) : ∀ n, 0 ≤ n → n < N → P n := by
  obtain ⟨r, hr⟩ := ha
  have key : ∀ m n, r n < m → 0 ≤ n → n < N → P n := by
    intro m
    induction m with
    | zero => intro n h; omega
    | succ m ih =>
      intro n h i0 i1
      by_cases q : gh g n = -1
      · by_cases q2 : bl β n = -1
        · exact h1 n i0 i1 q q2
        · obtain ⟨-, -, -, b1, b2⟩ := bok_at hb q2
          have := (hr n i0 i1).2 q q2
          exact h2 n i0 i1 q q2 b1 b2 (ih _ (by omega) b1 b2)
      · refine h3 n i0 i1 q (fun k hk p0 p1 => ih _ ?_ p0 p1)
        have := (hr n i0 i1).1 k hk
        omega
  exact fun n => key (r n + 1) n (Nat.lt_succ_self _)
theorem map_mem {f : Nat → List Int} {m : Nat} {x : List Int} (h : x ∈ (List.range m).map f) : ∃ k, k < m ∧ f k = x := by
  obtain ⟨k, hk, e⟩ := List.mem_map.mp h
  exact ⟨k, List.mem_range.mp hk, e⟩
theorem Typ_node {f : Nat → List Int} {t : Int} (h : ∀ k, k < pN t → Typ (f k)) : Typ (t :: ((List.range (pN t)).map f).flatten) := by
  refine Typ_con (fun x hx => ?_) (by simp)
  obtain ⟨k, hk, e⟩ := map_mem hx
  rw [← e]; exact h k hk
theorem ex_typ (hz : zok g N) (hb : bok g N β) (ha : acy g N β) : ∀ n, 0 ≤ n → n < N → Typ (ex g N β n) := by
  refine zind hz hb ha (fun n h0 h1 hu hf => ?_) (fun n h0 h1 hu hf b0 b1 ih => ?_) (fun n h0 h1 hu ih => ?_)
  · rw [ex_un hz hb ha h0 h1 hu hf]; exact Typ_var (by omega)
  · rw [ex_bd hz hb ha hf]; exact ih
  · rw [ex_con hz hb ha h0 h1 hu]
    exact Typ_node (fun k hk => by
      have := (hz n h0 h1).2 k hk
      exact ih k hk (by omega) (by omega))
theorem ex_sol (hz : zok g N) (hb : bok g N β) (ha : acy g N β) : sol g N β (ex g N β) := fun n h0 h1 =>
  ⟨ex_typ hz hb ha n h0 h1, fun hu => ex_con hz hb ha h0 h1 hu, fun _ hf => ex_bd hz hb ha hf⟩
/-- whatever solves comes of it -/
theorem ex_pr (hz : zok g N) (hb : bok g N β) (ha : acy g N β) {ρ : Int → List Int} (hs : sol g N β ρ) : ∀ n, 0 ≤ n → n < N → ρ n = sbt (fun v => ρ (-1 - v)) (ex g N β n) := by
  refine zind hz hb ha (fun n h0 h1 hu hf => ?_) (fun n h0 h1 hu hf b0 b1 ih => ?_) (fun n h0 h1 hu ih => ?_)
  · rw [ex_un hz hb ha h0 h1 hu hf, sbt_cons_v (by omega)]
    show ρ n = ρ (-1 - (-1 - n)) ++ []
    rw [List.append_nil, show -1 - (-1 - n) = n by omega]
  · rw [ex_bd hz hb ha hf, (hs n h0 h1).2.2 hu hf]; exact ih
  · have hh : ¬ gh g n < 0 := by
      rcases (hz n h0 h1).1 with q | q
      · exact absurd q hu
      · omega
    rw [ex_con hz hb ha h0 h1 hu, (hs n h0 h1).2.1 hu, sbt_cons_c hh, sbt_flat, List.map_map]
    refine congrArg _ (flat_congr (fun k hk => ?_))
    have := (hz n h0 h1).2 k hk
    exact ih k hk (by omega) (by omega)
/-- its letters are unknowns that nothing is put for -/
theorem ex_let (hz : zok g N) (hb : bok g N β) (ha : acy g N β) : ∀ n, 0 ≤ n → n < N → ∀ v, v ∈ ex g N β n → v < 104 ∧ (v < 0 → 0 ≤ -1 - v ∧ -1 - v < N ∧ gh g (-1 - v) = -1 ∧ bl β (-1 - v) = -1) := by
  refine zind hz hb ha (fun n h0 h1 hu hf => ?_) (fun n h0 h1 hu hf b0 b1 ih => ?_) (fun n h0 h1 hu ih => ?_)
  · rw [ex_un hz hb ha h0 h1 hu hf]
    intro v hv
    have e : v = -1 - n := by simpa using hv
    refine ⟨by omega, fun _ => ?_⟩
    rw [e, show -1 - (-1 - n) = n by omega]
    exact ⟨h0, h1, hu, hf⟩
  · rw [ex_bd hz hb ha hf]; exact ih
  · rw [ex_con hz hb ha h0 h1 hu]
    intro v hv
    have hh : 0 ≤ gh g n ∧ gh g n < 104 := by
      rcases (hz n h0 h1).1 with q | q
      · exact absurd q hu
      · exact q
    rcases List.mem_cons.mp hv with e | e
    · exact ⟨by omega, fun q => by omega⟩
    · obtain ⟨x, hx, hvx⟩ := List.mem_flatten.mp e
      obtain ⟨k, hk, e2⟩ := map_mem hx
      rw [← e2] at hvx
      have := (hz n h0 h1).2 k hk
      exact ih k hk (by omega) (by omega) v hvx
theorem ex_ne (hz : zok g N) (hb : bok g N β) (ha : acy g N β) (h0 : 0 ≤ n) (h1 : n < N) : 1 ≤ (ex g N β n).length := Typ_ne (ex_typ hz hb ha n h0 h1)
theorem sbt_ge {θ : Int → List Int} (h : ∀ w, w < 0 → 1 ≤ (θ w).length) {l : List Int} {w : Int} (hv : w < 0) (hm : w ∈ l) : (θ w).length + l.length ≤ (sbt θ l).length + 1 := by
  induction l with
  | nil => cases hm
  | cons a l ih =>
    have hl := sbt_len h l
    rcases List.mem_cons.mp hm with e | e
    · subst e
      rw [sbt_cons_v hv, List.length_append, List.length_cons]; omega
    · have := ih e
      by_cases q : a < 0
      · rw [sbt_cons_v q, List.length_append, List.length_cons]
        have := h a q; omega
      · rw [sbt_cons_c q, List.length_cons, List.length_cons]; omega
/-- an unknown that stands in a type isn't that type -/
theorem occ_no (hz : zok g N) (hb : bok g N β) (ha : acy g N β) {ρ : Int → List Int} (hs : sol g N β ρ) (h0 : 0 ≤ t) (h1 : t < N) (u0 : 0 ≤ u) (u1 : u < N) (hm : -1 - u ∈ ex g N β t) (hl : ¬ ex g N β t = [-1 - u]) : ¬ ρ u = ρ t := by
  intro e
  have e2 := ex_pr hz hb ha hs t h0 h1
  have hmem : ∀ l : List Int, (∀ v, v ∈ l → v ∈ ex g N β t) → sbt (fun v => ρ (-1 - v)) l = sbt (fun v => if v ∈ ex g N β t then ρ (-1 - v) else [0]) l := by
    intro l
    induction l with
    | nil => intro _; rfl
    | cons a l ih =>
      intro h
      have ih := ih (fun v hv => h v (List.mem_cons_of_mem _ hv))
      by_cases q : a < 0
      · rw [sbt_cons_v q, sbt_cons_v q, if_pos (h a List.mem_cons_self), ih]
      · rw [sbt_cons_c q, sbt_cons_c q, ih]
  rw [hmem _ (fun _ h => h)] at e2
  have hθ : ∀ w : Int, w < 0 → 1 ≤ ((fun v : Int => if v ∈ ex g N β t then ρ (-1 - v) else [0]) w).length := by
    intro w hw
    dsimp only
    by_cases q : w ∈ ex g N β t
    · rw [if_pos q]
      obtain ⟨w0, w1, -, -⟩ := (ex_let hz hb ha t h0 h1 w q).2 hw
      exact Typ_ne (hs _ w0 w1).1
    · rw [if_neg q]; exact Nat.le_refl _
  have k1 := sbt_ge hθ (by omega) hm
  rw [← e2, ← e] at k1
  rw [if_pos hm, show -1 - (-1 - u) = u by omega] at k1
  have k2 : (ex g N β t).length ≤ 1 := by omega
  generalize ex g N β t = l at hm hl k2
  cases l with
  | nil => cases hm
  | cons a l =>
    cases l with
    | nil =>
      rcases List.mem_cons.mp hm with q | q
      · rw [q] at hl; exact hl rfl
      · cases q
    | cons b l => simp at k2
theorem bl_cons_ne (h : ¬ n = u) : bl ((u, t) :: β) n = bl β n := if_neg h
theorem bl_cons_eq : bl ((u, t) :: β) u = t := if_pos rfl
/-- putting t for u -/
theorem bind_acy (hz : zok g N) (hb : bok g N β) (ha : acy g N β) (u0 : 0 ≤ u) (u1 : u < N) (hu : gh g u = -1) (hf : bl β u = -1) (t0 : 0 ≤ t) (t1 : t < N) (hm : ¬ -1 - u ∈ ex g N β t) : acy g N ((u, t) :: β) := by
  obtain ⟨r, hr⟩ := ha
  have ha : acy g N β := ⟨r, hr⟩
  have hsub : ∀ n k, 0 ≤ n → n < N → k < pN (gh g n) → ¬ gh g n = -1 → -1 - u ∈ ex g N β (gp g n k) → -1 - u ∈ ex g N β n := by
    intro n k i0 i1 hk hn h
    rw [ex_con hz hb ha i0 i1 hn]
    exact List.mem_cons_of_mem _ (List.mem_flatten.mpr ⟨_, List.mem_map.mpr ⟨k, List.mem_range.mpr hk, rfl⟩, h⟩)
  refine ⟨fun n => if -1 - u ∈ ex g N β n then r n + r t + 1 else r n, fun n i0 i1 => ⟨fun k hk => ?_, fun hn hbn => ?_⟩⟩
  · have h1 := (hr n i0 i1).1 k hk
    have hn : ¬ gh g n = -1 := fun q => by
      rw [q] at hk
      exact absurd hk (Nat.not_lt_zero k)
    dsimp only
    by_cases q : -1 - u ∈ ex g N β (gp g n k)
    · rw [if_pos q, if_pos (hsub n k i0 i1 hk hn q)]; omega
    · rw [if_neg q]; split <;> omega
  · dsimp only
    by_cases e : n = u
    · subst e
      rw [bl_cons_eq, if_neg hm, if_pos]
      · omega
      · rw [ex_un hz hb ha u0 u1 hu hf]; exact List.mem_cons_self
    · rw [bl_cons_ne e] at hbn ⊢
      have h1 := (hr n i0 i1).2 hn hbn
      rw [ex_bd hz hb ha hbn]
      split <;> omega
theorem bind_bok (hb : bok g N β) (u0 : 0 ≤ u) (u1 : u < N) (hu : gh g u = -1) (hf : bl β u = -1) (t0 : 0 ≤ t) (t1 : t < N) : bok g N ((u, t) :: β) := ⟨⟨u0, u1, hu, t0, t1, hf⟩, hb⟩
theorem bind_sol {ρ : Int → List Int} (u0 : 0 ≤ u) (u1 : u < N) (hu : gh g u = -1) (hf : bl β u = -1) (t0 : 0 ≤ t) : sol g N ((u, t) :: β) ρ ↔ sol g N β ρ ∧ ρ u = ρ t := by
  constructor
  · intro h
    refine ⟨fun n h0 h1 => ⟨(h n h0 h1).1, (h n h0 h1).2.1, fun hn hbn => ?_⟩, ?_⟩
    · have e : ¬ n = u := fun e => hbn (by rw [e]; exact hf)
      have := (h n h0 h1).2.2 hn (by rw [bl_cons_ne e]; exact hbn)
      rw [bl_cons_ne e] at this
      exact this
    · have := (h u u0 u1).2.2 hu (by rw [bl_cons_eq]; omega)
      rw [bl_cons_eq] at this
      exact this
  · rintro ⟨h, e⟩ n h0 h1
    refine ⟨(h n h0 h1).1, (h n h0 h1).2.1, fun hn hbn => ?_⟩
    by_cases q : n = u
    · subst q; rw [bl_cons_eq]; exact e
    · rw [bl_cons_ne q] at hbn ⊢
      exact (h n h0 h1).2.2 hn hbn
theorem rkd_tl (hf : bl β u = -1) (h : rkd g N ((u, t) :: β) r) : rkd g N β r := fun n h0 h1 => ⟨(h n h0 h1).1, fun hn hbn => by
  have e : ¬ n = u := fun e => hbn (by rw [e]; exact hf)
  have := (h n h0 h1).2 hn (by rw [bl_cons_ne e]; exact hbn)
  rw [bl_cons_ne e] at this
  exact this⟩
/-! the node that a node is -/
def svd (g : zH) (β : List (Int × Int)) (n : Int) : Prop := gh g n = -1 → bl β n = -1
theorem svF_st (hb : bok g N β) (hr : rkd g N β r) : ∀ f f' n, 0 ≤ n → n < N → r n ≤ f → r n ≤ f' → svF g β f n = svF g β f' n := by
  have base : ∀ f n, 0 ≤ n → n < N → r n = 0 → svF g β f n = n := by
    intro f n h0 h1 h
    cases f with
    | zero => rfl
    | succ f =>
      unfold svF
      rw [if_neg]
      rintro ⟨q1, q2⟩
      have := (hr n h0 h1).2 q1 q2
      omega
  intro f
  induction f with
  | zero => intro f' n h0 h1 h _; exact (base f' n h0 h1 (by omega)).symm
  | succ f ih =>
    intro f' n h0 h1 h h'
    cases f' with
    | zero => exact base _ n h0 h1 (by omega)
    | succ f' =>
      unfold svF
      by_cases q : gh g n = -1 ∧ ¬ bl β n = -1
      · rw [if_pos q, if_pos q]
        obtain ⟨-, -, -, b1, b2⟩ := bok_at hb q.2
        have := (hr n h0 h1).2 q.1 q.2
        exact ih f' _ b1 b2 (by omega) (by omega)
      · rw [if_neg q, if_neg q]
theorem sv_eq (hz : zok g N) (hb : bok g N β) (ha : acy g N β) (h0 : 0 ≤ n) (h1 : n < N) : sv g N β n = if gh g n = -1 ∧ ¬ bl β n = -1 then sv g N β (bl β n) else n := by
  obtain ⟨r, hr, hn⟩ := acy_norm hz hb ha
  have hn0 := hn n h0 h1
  unfold sv
  rw [svF_st hb hr N.toNat (N.toNat + 1) n h0 h1 (by omega) (by omega)]
  show (if gh g n = -1 ∧ ¬ bl β n = -1 then svF g β N.toNat (bl β n) else n) = _
  rfl
theorem sv_id (hz : zok g N) (hb : bok g N β) (ha : acy g N β) (h0 : 0 ≤ n) (h1 : n < N) (h : svd g β n) : sv g N β n = n := by
  rw [sv_eq hz hb ha h0 h1, if_neg (fun q => q.2 (h q.1))]
theorem sv_bd (hz : zok g N) (hb : bok g N β) (ha : acy g N β) (h : ¬ bl β n = -1) : sv g N β n = sv g N β (bl β n) := by
  obtain ⟨h0, h1, hu, -, -⟩ := bok_at hb h
  rw [sv_eq hz hb ha h0 h1, if_pos ⟨hu, h⟩]
theorem sv_all (hz : zok g N) (hb : bok g N β) (ha : acy g N β) : ∀ n, 0 ≤ n → n < N → svd g β (sv g N β n) ∧ 0 ≤ sv g N β n ∧ sv g N β n < N ∧ ex g N β (sv g N β n) = ex g N β n ∧ (∀ ρ, sol g N β ρ → ρ (sv g N β n) = ρ n) ∧ (∀ r, rkd g N β r → r (sv g N β n) ≤ r n) := by
  refine zind hz hb ha (fun n h0 h1 hu hf => ?_) (fun n h0 h1 hu hf b0 b1 ih => ?_) (fun n h0 h1 hu ih => ?_)
  · rw [sv_id hz hb ha h0 h1 (fun _ => hf)]
    exact ⟨fun _ => hf, h0, h1, rfl, fun _ _ => rfl, fun _ _ => Nat.le_refl _⟩
  · rw [sv_bd hz hb ha hf]
    obtain ⟨i1, i2, i3, i4, i5, i6⟩ := ih
    refine ⟨i1, i2, i3, i4.trans (ex_bd hz hb ha hf).symm, fun ρ hs => (i5 ρ hs).trans ((hs n h0 h1).2.2 hu hf).symm, fun r hr => ?_⟩
    have := i6 r hr
    have := (hr n h0 h1).2 hu hf
    omega
  · rw [sv_id hz hb ha h0 h1 (fun q => absurd q hu)]
    exact ⟨fun q => absurd q hu, h0, h1, rfl, fun _ _ => rfl, fun _ _ => Nat.le_refl _⟩
/-- it is an unknown, or it begins with its sign -/
theorem ex_sv (hz : zok g N) (hb : bok g N β) (ha : acy g N β) (h0 : 0 ≤ n) (h1 : n < N) : ex g N β n = if gh g (sv g N β n) = -1 then [-1 - sv g N β n] else gh g (sv g N β n) :: ((List.range (pN (gh g (sv g N β n)))).map (fun k => ex g N β (gp g (sv g N β n) k))).flatten := by
  obtain ⟨i1, i2, i3, i4, -, -⟩ := sv_all hz hb ha n h0 h1
  rw [← i4]
  by_cases q : gh g (sv g N β n) = -1
  · rw [if_pos q, ex_un hz hb ha i2 i3 q (i1 q)]
  · rw [if_neg q, ex_con hz hb ha i2 i3 q]
end ZG
