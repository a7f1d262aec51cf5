/-! Whether an unknown stands in a type: the class's way. -/
def que (f : Int → Int) (L : List Int) : Prop := ∀ (i : Nat) (a : Int), L[i]? = some a → f (i : Int) = a
theorem que_up {f : Int → Int} {L : List Int} {v : Int} (h : que f L) : que (upI f (L.length : Nat) v) (L ++ [v]) := by
  intro i a hi
  unfold upI
  by_cases e : i < L.length
  · rw [if_neg (by omega)]
    rw [List.getElem?_append_left e] at hi
    exact h i a hi
  · rw [List.getElem?_append_right (by omega)] at hi
    by_cases e2 : i = L.length
    · subst e2
      rw [if_pos rfl]
      simpa using hi
    · rw [List.getElem?_eq_none (by simp; omega)] at hi
      cases hi
theorem nodup_le {L Rs : List Int} (hn : L.Nodup) (h : ∀ a, a ∈ L → a ∈ Rs) : L.length ≤ Rs.length := by
  have key : ∀ L : List Int, L.Nodup → (∀ a, a ∈ L → a ∈ Rs) → L.length ≤ cnt (fun m => decide (m ∈ L)) Rs := by
    intro L
    induction L with
    | nil => intro _ _; exact Nat.zero_le _
    | cons a L ih =>
      intro hn h
      rw [List.nodup_cons] at hn
      have := ih hn.2 (fun b hb => h b (List.mem_cons_of_mem _ hb))
      refine Nat.lt_of_le_of_lt this (cnt_lt (fun m _ hm => decide_eq_true (List.mem_cons_of_mem _ (of_decide_eq_true hm))) (h a List.mem_cons_self) (decide_eq_true List.mem_cons_self) (fun q => hn.1 (of_decide_eq_true q)))
  exact Nat.le_trans (key L hn h) cnt_len
theorem i11 : (if (1 : Int) = 1 then (1 : Int) else 0) = 1 := if_pos rfl
theorem i01 : (if (0 : Int) = 1 then (1 : Int) else 0) = 0 := if_neg (by decide)
def sF : List (Nat × Int) := [(9004, 0), (9008, 0), (9012, 0)]
/-- what is listed -/
def lst (σ σ1 : jS) (N : Int) (Rs L : List Int) : Prop := sq sF σ σ1 ∧ rs σ1 9012 0 = (L.length : Nat) ∧ que (ra σ1 9008 0) L ∧ L.Nodup ∧ (∀ a, a ∈ L → a ∈ Rs) ∧ (∀ m, 0 ≤ m → m < N → ra σ1 9004 0 m = if m ∈ L then 1 else 0) ∧ (∀ m, m < 0 ∨ N ≤ m → ra σ1 9004 0 m = ra σ 9004 0 m)
section ZS
variable {n : Nat} {σ : jS} {g : zH} {N : Int} {β : List (Int × Int)} {x u t : Int} {Rs : List Int}
theorem cT0_s {σ1 : jS} (h : cT0 σ g N β) (e : sq sF σ σ1) : cT0 σ1 g N β := h.sq e (by decide)
theorem c_list {Q : jS → Prop} {σ1 : jS} {L : List Int} (hn : 1 ≤ n) (h : cT0 σ g N β) (hl : lst σ σ1 N Rs L) (hR : Rs.length ≤ 200) (xR : x ∈ Rs) (x0 : 0 ≤ x) (x1 : x < N) (hq : ∀ σ2, lst σ σ2 N Rs (if x ∈ L then L else L ++ [x]) → Q σ2) : TrV n i_Terms_list [jo 9 0, ji x] σ1 Q := by
  obtain ⟨e1, e2, e3, e4, e5, e6, e7⟩ := hl
  have h1 := cT0_s h e1
  have hlen := nodup_le e4 e5
  refine wp_Terms_list ⟨by omega, hn, c_isListed h1 x0 x1 ?_⟩
  rw [e6 x x0 x1]
  by_cases q : x ∈ L
  · rw [if_pos q, i11, if_pos (by decide)]
    have := hq σ1 (by rw [if_pos q]; exact ⟨e1, e2, e3, e4, e5, e6, e7⟩)
    exact this
  · rw [if_neg q, i01, if_neg (by decide), if_neg (by omega)]
    refine c_setListed h1 x0 x1 ?_
    have e8 : sq sF σ (wa σ1 9004 0 x 1) := e1.pwa 9004 0 _ _ (by decide)
    have e9 : rs (wa σ1 9004 0 x 1) 9012 0 = (L.length : Nat) := e2
    refine c_pushOpen (h.1.sq e8) (by rw [e9]; omega) (by rw [e9]; omega) (hq _ ?_)
    rw [if_neg q, e9]
    refine ⟨(e8.pwa 9008 0 _ _ (by decide)).pws 9012 0 _ (by decide), ?_, ?_, ?_, ?_, ?_, ?_⟩
    · rw [rs_ws, if_pos ⟨rfl, rfl⟩, List.length_append]
      simp
    · exact que_up e3
    · rw [List.nodup_append]
      refine ⟨e4, by simp, fun a ha b hb => ?_⟩
      have : b = x := by simpa using hb
      rw [this]
      exact fun w => q (by rw [← w]; exact ha)
    · intro a ha
      rcases List.mem_append.mp ha with w | w
      · exact e5 a w
      · have : a = x := by simpa using w
        rw [this]; exact xR
    · intro m m0 m1
      show upI (ra σ1 9004 0) x 1 m = _
      unfold upI
      by_cases w : m = x
      · rw [if_pos w, if_pos (by rw [w]; simp)]
      · rw [if_neg w, e6 m m0 m1]
        by_cases w2 : m ∈ L
        · rw [if_pos w2, if_pos (List.mem_append_left _ w2)]
        · rw [if_neg w2, if_neg]
          intro w3
          rcases List.mem_append.mp w3 with w4 | w4
          · exact w2 w4
          · exact w (by simpa using w4)
    · intro m hm
      show upI (ra σ1 9004 0) x 1 m = _
      unfold upI
      rw [if_neg (by omega)]
      exact e7 m hm
theorem sg_parts (hz : zok g N) (x0 : 0 ≤ x) (x1 : x < N) : 0 ≤ sg g x ∧ sg g x ≤ 104 ∧ (if sg g x = 104 then 0 else ((pN (gh g x) : Nat) : Int)) = (pN (gh g x) : Nat) := by
  unfold sg
  by_cases q : gh g x = -1
  · rw [if_pos q, q]
    exact ⟨by omega, by omega, rfl⟩
  · rw [if_neg q]
    rcases (hz x x0 x1).1 with w | w
    · exact absurd w q
    · exact ⟨by omega, by omega, if_neg (by omega)⟩
theorem c_fparts2 {Q : Int → jS → Prop} (hz : zok g N) (x0 : 0 ≤ x) (x1 : x < N) (hq : Q (pN (gh g x) : Nat) σ) : TrI n i_Flat_partsOf [ji (sg g x)] σ Q := by
  obtain ⟨s1, s2, s3⟩ := sg_parts (g := g) hz x0 x1
  refine c_fparts s1 s2 ?_
  unfold sg at s3 ⊢
  by_cases q : gh g x = -1
  · rw [if_pos q, if_pos rfl]
    rw [q] at hq
    exact hq
  · rw [if_neg q, if_neg]
    · exact hq
    · rcases (hz x x0 x1).1 with w | w
      · exact absurd w q
      · omega
/-- all that stands in what is listed stands in t -/
def reach (g : zH) (N : Int) (β : List (Int × Int)) (u t : Int) (L : List Int) : Prop := ∀ a, a ∈ L → -1 - u ∈ ex g N β a → -1 - u ∈ ex g N β t
/-- the first i of what is listed have been gone through -/
def gone (g : zH) (N : Int) (β : List (Int × Int)) (i : Nat) (L : List Int) : Prop := ∀ (j : Nat) (a : Int), j < i → L[j]? = some a → ∀ k, k < pN (gh g a) → sv g N β (gp g a k) ∈ L
theorem c_st50 {Q : Int → jS → Prop} (hn : 2 ≤ n) (h : cT0 σ g N β) (ha : acy g N β) (hs : sml g N β Rs) (hR : Rs.length ≤ 200) (u0 : 0 ≤ u) {i : Nat} (hi : i < 2048) {y : Int} (yR : y ∈ Rs) (hy : -1 - u ∈ ex g N β y → -1 - u ∈ ex g N β t) : ∀ (j k : Nat) (L : List Int) (σ1 : jS), k + j = pN (gh g y) → lst σ σ1 N Rs L → L[i]? = some y → reach g N β u t L → gone g N β i L → (∀ k', k' < k → sv g N β (gp g y k') ∈ L) → (∀ L' σ2, lst σ σ2 N Rs L' → reach g N β u t L' → gone g N β (i + 1) L' → i + 1 ≤ L'.length → (∀ a, a ∈ L → a ∈ L') → J n c_Terms_standsIn (some .boolean) 16 [some (jo 9 0), some (ji u), none, some (ji ((i + 1 : Nat) : Int)), none, none] [] σ2 (qI Q)) → J n c_Terms_standsIn (some .boolean) 50 [some (jo 9 0), some (ji u), none, some (ji (i : Nat)), some (ji y), some (ji (k : Nat))] [] σ1 (qI Q) := by
  have hz := h.2.1
  have hb := h.2.2.1
  obtain ⟨y0, y1, y2⟩ := hs y yR
  intro j
  induction j with
  | zero =>
    intro k L σ1 hk hl hLi hre hgo hdone kk
    have h1 := cT0_s h hl.1
    refine wp_Terms_standsIn_50 ⟨by omega, by omega, c_signOf h1 y0 y1 (c_fparts2 hz y0 y1 ?_)⟩
    rw [if_pos (by omega)]
    refine ⟨⟨by omega, by omega⟩, ?_⟩
    refine kk L σ1 hl hre (fun j' a hj ha' k' hk' => ?_) ?_ (fun a ha' => ha')
    · by_cases e : j' = i
      · subst e
        rw [hLi] at ha'
        cases ha'
        exact hdone k' (by omega)
      · exact hgo j' a (by omega) ha' k' hk'
    · have := (List.getElem?_eq_some_iff.mp hLi).1
      omega
  | succ j ih =>
    intro k L σ1 hk hl hLi hre hgo hdone kk
    have h1 := cT0_s h hl.1
    have p := (hz y y0 y1).2 k (by omega)
    obtain ⟨v1, v2, v3, v4, -, -⟩ := sv_all hz hb ha (gp g y k) p.1 (by omega)
    refine wp_Terms_standsIn_50 ⟨by omega, by omega, c_signOf h1 y0 y1 (c_fparts2 hz y0 y1 ?_)⟩
    rw [if_neg (by omega)]
    refine c_part h1 y0 y1 (by omega) (c_solved (by omega) h1 ha p.1 (by omega) (c_list (by omega) h hl hR (y2 k (by omega)) v2 v3 (fun σ2 hl2 => ⟨⟨by omega, by have := pN_3 hz y0 y1; omega⟩, ?_⟩)))
    have hsub : ∀ a, a ∈ L → a ∈ (if sv g N β (gp g y k) ∈ L then L else L ++ [sv g N β (gp g y k)]) := fun a ha' => by
      split
      · exact ha'
      · exact List.mem_append_left _ ha'
    have hin : sv g N β (gp g y k) ∈ (if sv g N β (gp g y k) ∈ L then L else L ++ [sv g N β (gp g y k)]) := by
      split
      · assumption
      · simp
    have hpre : ∀ (j' : Nat) (a : Int), j' ≤ i → (if sv g N β (gp g y k) ∈ L then L else L ++ [sv g N β (gp g y k)])[j']? = some a → L[j']? = some a := fun j' a hj hja => by
      split at hja
      · exact hja
      · rw [List.getElem?_append_left (by have := (List.getElem?_eq_some_iff.mp hLi).1; omega)] at hja
        exact hja
    refine ih (k + 1) _ σ2 (by omega) hl2 ?_ (fun a ha' hm => ?_) (fun j' a hj hja k' hk' => hsub _ (hgo j' a hj (hpre j' a (by omega) hja) k' hk')) (fun k' hk' => ?_) (fun L' σ3 w1 w2 w3 w4 w5 => kk L' σ3 w1 w2 w3 w4 (fun a ha' => w5 a (hsub a ha')))
    · split
      · exact hLi
      · rw [List.getElem?_append_left (List.getElem?_eq_some_iff.mp hLi).1]
        exact hLi
    · split at ha'
      · exact hre a ha' hm
      · rcases List.mem_append.mp ha' with w | w
        · exact hre a w hm
        · have : a = sv g N β (gp g y k) := by simpa using w
          rw [this, v4] at hm
          refine hy ?_
          have gy : ¬ gh g y = -1 := fun q => by
            rw [q] at hk
            have : pN (-1) = 0 := rfl
            omega
          exact (ex_cmem hz hb ha y0 y1 gy (by omega)).mpr ⟨k, by omega, hm⟩
    · by_cases e : k' = k
      · subst e; exact hin
      · exact hsub _ (hdone k' (by omega))
/-- the marks go again -/
theorem c_st101 {Q : Int → jS → Prop} {v : Int} (hv : v = 0 ∨ v = 1) (hn : 1 ≤ n) (h : cT0 σ g N β) (hmk : mk0 σ) {L : List Int} (hRL : L.length ≤ 200) (hLr : ∀ a, a ∈ L → 0 ≤ a ∧ a < N) (hq : ∀ σ2, sq sF σ σ2 → mk0 σ2 → Q v σ2) : ∀ (j i : Nat) (σ1 : jS), i + j = L.length → sq sF σ σ1 → rs σ1 9012 0 = (L.length : Nat) → que (ra σ1 9008 0) L → (∀ m, ¬ m ∈ L → ra σ1 9004 0 m = ra σ 9004 0 m) → (∀ (j' : Nat) (a : Int), j' < i → L[j']? = some a → ra σ1 9004 0 a = 0) → J n c_Terms_standsIn (some .boolean) 101 [some (jo 9 0), none, none, some (ji v), some (ji (i : Nat)), none] [] σ1 (qI Q) := by
  intro j
  induction j with
  | zero =>
    intro i σ1 hi e1 e2 e3 e4 e5
    refine wp_Terms_standsIn_101 ?_
    rw [if_neg (by omega)]
    refine ⟨by omega, ?_⟩
    rw [if_pos (by omega)]
    refine ⟨hv, hq σ1 e1 (fun m m0 m1 => ?_)⟩
    by_cases w : m ∈ L
    · obtain ⟨j', hj'⟩ := List.getElem?_of_mem w
      exact e5 j' m (by have := (List.getElem?_eq_some_iff.mp hj').1; omega) hj'
    · rw [e4 m w]
      exact hmk m m0 (by rw [← e1.nrl 9004 0]; exact m1)
  | succ j ih =>
    intro i σ1 hi e1 e2 e3 e4 e5
    have h1 := cT0_s h e1
    have l8 := cln_at h1.1 9008 0 2048 (by decide)
    have hi2 : i < L.length := by omega
    have hLi : L[i]? = some (L[i]) := List.getElem?_eq_getElem hi2
    have ha := hLr _ (List.getElem_mem hi2)
    refine wp_Terms_standsIn_101 ?_
    rw [if_neg (by omega)]
    refine ⟨by omega, ?_⟩
    rw [if_neg (by omega), e3 i _ hLi]
    refine ⟨by omega, by omega, by omega, hn, c_setListed h1 ha.1 ha.2 ⟨⟨by omega, by omega⟩, ?_⟩⟩
    refine ih (i + 1) _ (by omega) (e1.pwa 9004 0 _ _ (by decide)) e2 e3 (fun m w => ?_) (fun j' a hj hja => ?_)
    · show upI (ra σ1 9004 0) L[i] 0 m = _
      unfold upI
      rw [if_neg (fun q => w (by rw [q]; exact List.getElem_mem hi2))]
      exact e4 m w
    · show upI (ra σ1 9004 0) L[i] 0 a = _
      unfold upI
      by_cases q : a = L[i]
      · rw [if_pos q]
      · rw [if_neg q]
        refine e5 j' a ?_ hja
        rcases Nat.lt_or_ge j' i with w | w
        · exact w
        · have : j' = i := by omega
          subst this
          rw [hLi] at hja
          cases hja
          exact absurd rfl q
/-- whether u stands in t -/
theorem c_standsIn {Q : Int → jS → Prop} (hn : 3 ≤ n) (h : cT σ g N β) (ha : acy g N β) (hs : sml g N β Rs) (hR : Rs.length ≤ 200) (u0 : 0 ≤ u) (u1 : u < N) (hu : gh g u = -1) (hf : bl β u = -1) (t0 : 0 ≤ t) (t1 : t < N) (tR : sv g N β t ∈ Rs) (hq : ∀ b σ2, sq sF σ σ2 → cT σ2 g N β → (b = 1 ∧ -1 - u ∈ ex g N β t) ∨ (b = 0 ∧ ¬ -1 - u ∈ ex g N β t) → Q b σ2) : TrI n i_Terms_standsIn [jo 9 0, ji u, ji t] σ Q := by
  obtain ⟨h, hmk⟩ := h
  have hz := h.2.1
  have hb := h.2.2.1
  have hNl : N ≤ rl σ 9004 0 := by
    have := h.2.2.2.2.2.2.2.1
    omega
  have hLr : ∀ L : List Int, (∀ a, a ∈ L → a ∈ Rs) → ∀ a, a ∈ L → 0 ≤ a ∧ a < N := fun L hL a ha' => ⟨(hs a (hL a ha')).1, (hs a (hL a ha')).2.1⟩
  obtain ⟨v1, v2, v3, v4, -, -⟩ := sv_all hz hb ha t t0 t1
  -- the end
  have fin : ∀ L σ1, lst σ σ1 N Rs L → ∀ b, b = (if u ∈ L then 1 else 0) → ((b = 1 ∧ -1 - u ∈ ex g N β t) ∨ (b = 0 ∧ ¬ -1 - u ∈ ex g N β t)) → J n c_Terms_standsIn (some .boolean) 101 [some (jo 9 0), none, none, some (ji b), some (ji 0), none] [] σ1 (qI Q) := by
    intro L σ1 hl b hb' hbb
    have hlen := nodup_le hl.2.2.2.1 hl.2.2.2.2.1
    refine c_st101 (L := L) (by rw [hb']; split <;> simp) (by omega) h hmk (by omega) (hLr L hl.2.2.2.2.1) (fun σ2 e1 e2 => hq b σ2 e1 ⟨cT0_s h e1, e2⟩ hbb) L.length 0 σ1 (by omega) hl.1 hl.2.1 hl.2.2.1 (fun m w => ?_) (fun j' a hj => absurd hj (by omega))
    rcases Int.lt_or_le m 0 with q | q
    · exact hl.2.2.2.2.2.2 m (Or.inl q)
    · rcases Int.lt_or_le m N with q2 | q2
      · rw [hl.2.2.2.2.2.1 m q q2, if_neg w, hmk m q (by omega)]
      · exact hl.2.2.2.2.2.2 m (Or.inr q2)
  have atEnd : ∀ (L : List Int) (σ1 : jS), lst σ σ1 N Rs L → reach g N β u t L → (u ∈ L ∨ gone g N β L.length L) → sv g N β t ∈ L → TrI (n - 1) i_Terms_isListed [jo 9 0, ji u] σ1 (fun zr8 zs7 => J n c_Terms_standsIn (some .boolean) 101 [some (jo 9 0), none, none, some (ji zr8), some (ji 0), none] [] zs7 (qI Q)) := by
    intro L σ1 hl hre hgo hin
    have h1 := cT0_s h hl.1
    refine c_isListed h1 u0 u1 ?_
    rw [hl.2.2.2.2.2.1 u u0 u1]
    have e : (if (if u ∈ L then (1 : Int) else 0) = 1 then (1 : Int) else 0) = if u ∈ L then 1 else 0 := by
      split
      · exact i11
      · exact i01
    rw [e]
    refine fin L σ1 hl _ rfl ?_
    by_cases q : u ∈ L
    · rw [if_pos q]
      refine Or.inl ⟨rfl, hre u q ?_⟩
      rw [ex_un hz hb ha u0 u1 hu hf]
      exact List.mem_cons_self
    · rw [if_neg q]
      refine Or.inr ⟨rfl, ?_⟩
      have hgo := hgo.resolve_left q
      have key : ∀ m, 0 ≤ m → m < N → sv g N β m ∈ L → ¬ -1 - u ∈ ex g N β m := by
        refine zind hz hb ha (fun m h0 h1 hm hfm => ?_) (fun m h0 h1 hm hfm b0 b1 ih => ?_) (fun m h0 h1 hm ih => ?_)
        · rw [sv_id hz hb ha h0 h1 (fun _ => hfm), ex_un hz hb ha h0 h1 hm hfm]
          intro w w2
          have : -1 - u = -1 - m := by simpa using w2
          exact q (by rw [show u = m by omega]; exact w)
        · rw [sv_bd hz hb ha hfm, ex_bd hz hb ha hfm]
          exact ih
        · rw [sv_id hz hb ha h0 h1 (fun w => absurd w hm)]
          intro w w2
          obtain ⟨k, hk, hmk2⟩ := (ex_cmem hz hb ha h0 h1 hm (by omega)).mp w2
          obtain ⟨j', hj'⟩ := List.getElem?_of_mem w
          have p := (hz m h0 h1).2 k hk
          exact ih k hk p.1 (by omega) (hgo j' m (List.getElem?_eq_some_iff.mp hj').1 hj' k hk) hmk2
      exact key t t0 t1 hin
  have loop : ∀ (M i : Nat) (L : List Int) (σ1 : jS), Rs.length - i ≤ M → lst σ σ1 N Rs L → reach g N β u t L → gone g N β i L → i ≤ L.length → sv g N β t ∈ L → J n c_Terms_standsIn (some .boolean) 16 [some (jo 9 0), some (ji u), none, some (ji (i : Nat)), none, none] [] σ1 (qI Q) := by
    intro M
    induction M with
    | zero =>
      intro i L σ1 hM hl hre hgo hi hin
      have hlen := nodup_le hl.2.2.2.1 hl.2.2.2.2.1
      refine wp_Terms_standsIn_16 ?_
      rw [if_neg (by omega)]
      refine ⟨by omega, ?_⟩
      rw [if_pos (by have := hl.2.1; omega)]
      have e : i = L.length := by omega
      exact ⟨by omega, atEnd L σ1 hl hre (Or.inr (by rw [← e]; exact hgo)) hin⟩
    | succ M ih =>
      intro i L σ1 hM hl hre hgo hi hin
      have hlen := nodup_le hl.2.2.2.1 hl.2.2.2.2.1
      have h1 := cT0_s h hl.1
      have l8 := cln_at h1.1 9008 0 2048 (by decide)
      refine wp_Terms_standsIn_16 ?_
      rw [if_neg (by omega)]
      refine ⟨by omega, ?_⟩
      by_cases e : i = L.length
      · rw [if_pos (by have := hl.2.1; omega)]
        exact ⟨by omega, atEnd L σ1 hl hre (Or.inr (by rw [← e]; exact hgo)) hin⟩
      · rw [if_neg (by have := hl.2.1; omega)]
        refine ⟨by omega, c_isListed h1 u0 u1 ?_⟩
        rw [hl.2.2.2.2.2.1 u u0 u1]
        by_cases q : u ∈ L
        · rw [if_pos q, i11, if_pos (by decide)]
          exact atEnd L σ1 hl hre (Or.inl q) hin
        · rw [if_neg q, i01, if_neg (by decide)]
          have hi2 : i < L.length := by omega
          have hLi : L[i]? = some (L[i]) := List.getElem?_eq_getElem hi2
          have hR2 := hl.2.2.2.2.1 _ (List.getElem_mem hi2)
          rw [hl.2.2.1 i _ hLi]
          refine ⟨by omega, by omega, by omega, ?_⟩
          refine c_st50 (by omega) h ha hs hR u0 (by omega) hR2 (hre _ (List.getElem_mem hi2)) (pN (gh g L[i])) 0 L σ1 (by omega) hl hLi hre hgo (fun k' hk' => absurd hk' (by omega)) (fun L' σ2 hl2 hre2 hgo2 hi3 hsb => ih (i + 1) L' σ2 (by omega) hl2 hre2 hgo2 hi3 (hsb _ hin))
  refine wp_Terms_standsIn ⟨by omega, fun σ1 e1 => ⟨by omega, ?_⟩⟩
  have e2 : sq sF σ σ1 := by rw [e1]; exact (sq.rf _ σ).pws 9012 0 _ (by decide)
  have hl0 : lst σ σ1 N Rs [] := ⟨e2, by rw [e1, rs_ws, if_pos ⟨rfl, rfl⟩]; rfl, fun i a hi => (by simp at hi), List.nodup_nil, fun a ha' => (by cases ha'), fun m m0 m1 => by rw [e1]; show ra σ 9004 0 m = _; rw [hmk m m0 (by omega)]; simp, fun m hm => by rw [e1]; rfl⟩
  refine c_solved (by omega) (cT0_s h e2) ha t0 t1 (c_list (by omega) h hl0 hR tR v2 v3 (fun σ2 hl2 => ?_))
  rw [if_neg (by simp), List.nil_append] at hl2
  refine loop _ 0 _ σ2 (Nat.le_refl _) hl2 (fun a ha' hm => ?_) (fun j' a hj => absurd hj (by omega)) (by simp) (by simp)
  have : a = sv g N β t := by simpa using ha'
  rw [this, v4] at hm
  exact hm
end ZS
