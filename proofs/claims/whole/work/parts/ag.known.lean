/-! What is known of a store while objects are made: fields, rows, how many there are. -/
def kf : List ((Nat × Int) × Int) → Nat → Int → Option Int
  | [], _, _ => none
  | (k, v) :: l, F, o => if F = k.1 ∧ o = k.2 then some v else kf l F o
def kk : List (Nat × Int) → Nat → Option Int
  | [], _ => none
  | (k, v) :: l, c => if c = k then some v else kk l c
/-- fields, lengths of rows, rows that are all one number, how many of a kind, texts' rows up to B, how many of these stand in 10008 of 0 and 1, cells, slots -/
def kn (fs fl fa : List ((Nat × Int) × Int)) (ks : List (Nat × Int)) (B t0 t1 C Z L : Int) (σ : jS) : Prop :=
  rl σ 800000 0 = L ∧
  (∀ F o v, kf fs F o = some v → rs σ F o = v) ∧ (∀ F o v, F < 900000 → kf fl F o = some v → rl σ F o = v) ∧ (∀ F o v, F < 900000 → kf fa F o = some v → ra σ F o = fun _ => v) ∧ (∀ c v, kk ks c = some v → rk σ c = v) ∧ (rc σ = C ∧ rz σ = Z) ∧ jnT σ ∧ (∀ F o, F < 800000 → 0 ≤ rl σ F o → kf fl F o ≠ none ∨ (F = 0 ∧ 2 ≤ o ∧ o < B)) ∧ (∀ o, 2 ≤ o → o < B → rl σ 0 o = 12) ∧ (∀ j, 0 ≤ j → j < t0 → ra σ 10008 0 j = 2 + j) ∧ (∀ j, 0 ≤ j → j < t1 → ra σ 10008 1 j = 122 + j)
/-- the fields of a new object -/
def kd (c : Nat) (o : Int) : List ((Nat × Int) × Int) := (List.range (ax_nf c)).map (fun j => ((1000 * c + j, o), if jk (1000 * c + j) = 0 then 0 else -1))
section ZAg
variable {n : Nat} {σ σ1 s1 s2 : jS} {fs fl fa fs' fa' : List ((Nat × Int) × Int)} {ks ks' : List (Nat × Int)} {B t0 t1 C Z o v len : Int} {F c t : Nat} {L : Int}
theorem kf_app : ∀ {a b : List ((Nat × Int) × Int)}, kf (a ++ b) F o = (match kf a F o with | some v => some v | none => kf b F o) := by
  intro a
  induction a with
  | nil => intro b; rfl
  | cons p a ih =>
    intro b
    obtain ⟨k, w⟩ := p
    show (if F = k.1 ∧ o = k.2 then some w else kf (a ++ b) F o) = match (if F = k.1 ∧ o = k.2 then some w else kf a F o) with | some v => some v | none => kf b F o
    by_cases q : F = k.1 ∧ o = k.2
    · rw [if_pos q, if_pos q]
    · rw [if_neg q, if_neg q]
      exact ih
theorem kf_mem : ∀ {l : List ((Nat × Int) × Int)}, kf l F o = some v → ((F, o), v) ∈ l := by
  intro l
  induction l with
  | nil => intro h; cases h
  | cons p l ih =>
    obtain ⟨⟨k1, k2⟩, w⟩ := p
    intro h
    have h2 : (if F = k1 ∧ o = k2 then some w else kf l F o) = some v := h
    by_cases q : F = k1 ∧ o = k2
    · rw [if_pos q] at h2
      have e := Option.some.inj h2
      rw [q.1, q.2, e]
      exact List.mem_cons_self
    · rw [if_neg q] at h2
      exact List.mem_cons_of_mem _ (ih h2)
theorem kn.k (h : kn fs fl fa ks B t0 t1 C Z L σ) (hk : kk ks c = some v) : rk σ c = v := h.2.2.2.2.1 c v hk
theorem kn.s (h : kn fs fl fa ks B t0 t1 C Z L σ) (hk : kf fs F o = some v) : rs σ F o = v := h.2.1 F o v hk
theorem kn.l (h : kn fs fl fa ks B t0 t1 C Z L σ) (hF : F < 900000) (hk : kf fl F o = some v) : rl σ F o = v := h.2.2.1 F o v hF hk
theorem kn.a (h : kn fs fl fa ks B t0 t1 C Z L σ) (hF : F < 900000) (hk : kf fa F o = some v) : ra σ F o = fun _ => v := h.2.2.2.1 F o v hF hk
theorem kn.mW (h : kn fs fl fa ks B t0 t1 C Z L σ) (e : s1 = ws σ F o v) : kn (((F, o), v) :: fs) fl fa ks B t0 t1 C Z L s1 := by
  subst e
  obtain ⟨h0, h1, h2⟩ := h
  refine ⟨h0, fun G x w hw => ?_, h2⟩
  have hw : (if G = F ∧ x = o then some v else kf fs G x) = some w := hw
  rw [rs_ws]
  by_cases q : G = F ∧ x = o
  · rw [if_pos q] at hw ⊢
    cases hw
    rfl
  · rw [if_neg q] at hw ⊢
    exact h1 G x w hw
theorem kn.mO (h : kn fs fl fa ks B t0 t1 C Z L σ) (e : s1 = nO σ c) (hk : kk ks c = some o) (hf : (fs.all (fun p => !(decide (p.1.1 / 1000 = c) && decide (p.1.2 = o)))) = true) : kn (kd c o ++ fs) fl fa ((c, o + 1) :: ks) B t0 t1 (C + 1) (Z + (ax_nf c : Nat)) L s1 := by
  subst e
  have hko := h.k hk
  obtain ⟨h0, h1, h2, h3, h4, ⟨h5, h5b⟩, h6, h7, h8, h9, h10⟩ := h
  refine ⟨h0, fun G x w hw => ?_, h2, h3, fun c' w hw => ?_, ⟨by rw [rc_nO, h5], by rw [rz_nO, h5b]⟩, h6, h7, h8, h9, h10⟩
  · rw [kf_app] at hw
    rw [rs_nO, hko]
    cases hkd : kf (kd c o) G x with
    | some w' =>
      rw [hkd] at hw
      cases hw
      have hm := kf_mem hkd
      unfold kd at hm
      obtain ⟨j, hj, e⟩ := List.mem_map.mp hm
      have hj := List.mem_range.mp hj
      have hnf : ax_nf c ≤ 1000 := by
        by_cases w : c < 13
        · have : ∀ c, c < 13 → ax_nf c ≤ 1000 := by decide
          exact this c w
        · have : c < 13 ∨ 13 ≤ c := Nat.lt_or_ge c 13
          have h0 : ax_cl[c]? = none := List.getElem?_eq_none (by
            have : ax_cl.length ≤ 13 := by decide
            omega)
          unfold ax_nf
          rw [h0]
          exact Nat.zero_le _
      have e1 : 1000 * c + j = G := congrArg (fun p => p.1.1) e
      have e2 : o = x := congrArg (fun p => p.1.2) e
      have e3 : (if jk (1000 * c + j) = 0 then (0 : Int) else -1) = w := congrArg (fun p => p.2) e
      rw [if_pos ⟨by omega, e2.symm⟩, ← e1]
      exact e3
    | none =>
      rw [hkd] at hw
      dsimp only at hw
      have hm := kf_mem hw
      have := List.all_eq_true.mp hf _ hm
      rw [if_neg (fun q => by
        dsimp only at this
        rw [decide_eq_true q.1, decide_eq_true q.2] at this
        cases this)]
      exact h1 G x w hw
  · have hw : (if c' = c then some (o + 1) else kk ks c') = some w := hw
    rw [rk_nO]
    by_cases q : c' = c
    · rw [if_pos q] at hw ⊢
      cases hw
      rw [hko]
    · rw [if_neg q] at hw ⊢
      exact h4 c' w hw
theorem kn.neg (h : kn fs fl fa ks B t0 t1 C Z L σ) (e : s1 = nA σ t len) (hF : F < 800000) (hn : kf fl F o = none) (hB : ¬ F = 0 ∨ o < 2 ∨ B ≤ o) : rl s1 F o < 0 := by
  subst e
  rw [rl_nA, if_neg (fun w => by have := w.1; unfold jtmp at this; omega)]
  rcases Int.lt_or_le (rl σ F o) 0 with w | w
  · exact w
  · rcases h.2.2.2.2.2.2.2.1 F o hF w with q | q
    · exact absurd hn q
    · omega
theorem kn.na (h : kn fs fl fa ks B t0 t1 C Z L σ) (e : s1 = nA σ t len) (e2 : s2 = mA s1 t F o) (hF : F < 800000) (hn : kf fl F o = none) (hB : ¬ F = 0 ∨ o < 2 ∨ B ≤ o) (h8 : ¬ F = 10008 ∨ (¬ o = 0 ∨ t0 ≤ 0) ∧ (¬ o = 1 ∨ t1 ≤ 0)) : kn fs (((F, o), len) :: fl) (((F, o), if t = 4 then -1 else 0) :: fa) ks B t0 t1 (C + 1) (Z + len) L s2 := by
  subst e
  subst e2
  obtain ⟨h0, h1, h2, h3, h4, ⟨h5, h5b⟩, h6, h7, hb, h9, h10⟩ := h
  have rl2 : ∀ G x, G < 900000 → rl (mA (nA σ t len) t F o) G x = if G = F ∧ x = o then len else rl σ G x := fun G x hG => by
    rw [rl_mA]
    by_cases q : G = F ∧ x = o
    · rw [if_pos q, if_pos q, rl_nA, if_pos ⟨rfl, rfl⟩]
    · rw [if_neg q, if_neg q, if_neg (fun w => by have := w.1; unfold jtmp at this; omega), rl_nA, if_neg (fun w => by have := w.1; unfold jtmp at this; omega)]
  have ra2 : ∀ G x, G < 900000 → ra (mA (nA σ t len) t F o) G x = if G = F ∧ x = o then (fun _ => if t = 4 then -1 else 0) else ra σ G x := fun G x hG => by
    rw [raf_mA]
    by_cases q : G = F ∧ x = o
    · rw [if_pos q, if_pos q, raf_nA, if_pos ⟨rfl, rfl⟩]
    · rw [if_neg q, if_neg q, raf_nA, if_neg (fun w => by have := w.1; unfold jtmp at this; omega)]
  refine ⟨by rw [rl2 800000 0 (by decide), if_neg (fun w => by have := w.1; omega)]; exact h0, h1, fun G x w hG hw => ?_, fun G x w hG hw => ?_, h4, ⟨by rw [rc_mA, rc_nA, h5], by rw [rz_mA, rz_nA, h5b]⟩, fun t' => ?_, fun G x hG hp => ?_, fun x x0 x1 => ?_, fun j j0 j1 => ?_, fun j j0 j1 => ?_⟩
  · have hw : (if G = F ∧ x = o then some len else kf fl G x) = some w := hw
    rw [rl2 G x hG]
    by_cases q : G = F ∧ x = o
    · rw [if_pos q] at hw ⊢
      cases hw
      rfl
    · rw [if_neg q] at hw ⊢
      exact h2 G x w hG hw
  · have hw : (if G = F ∧ x = o then some (if t = 4 then -1 else 0) else kf fa G x) = some w := hw
    rw [ra2 G x hG]
    by_cases q : G = F ∧ x = o
    · rw [if_pos q] at hw ⊢
      cases hw
      rfl
    · rw [if_neg q] at hw ⊢
      exact h3 G x w hG hw
  · rw [rl_mA, if_neg (fun w => by have := w.1; unfold jtmp at this; omega)]
    by_cases q : jtmp t' = jtmp t
    · rw [if_pos ⟨q, rfl⟩]; decide
    · rw [if_neg (fun w => q w.1), rl_nA, if_neg (fun w => q w.1)]
      exact h6 t'
  · rw [rl2 G x (by omega)] at hp
    show (if G = F ∧ x = o then some len else kf fl G x) ≠ none ∨ _
    by_cases q : G = F ∧ x = o
    · rw [if_pos q]
      exact Or.inl (fun w => by cases w)
    · rw [if_neg q] at hp ⊢
      exact h7 G x hG hp
  · rw [rl2 0 x (by decide), if_neg (fun w => by have := w.1; omega)]
    exact hb x x0 x1
  · rw [ra2 10008 0 (by decide), if_neg (fun w => by
      have := w.1
      have := w.2
      omega)]
    exact h9 j j0 j1
  · rw [ra2 10008 1 (by decide), if_neg (fun w => by
      have := w.1
      have := w.2
      omega)]
    exact h10 j j0 j1
/-- a text's row more -/
theorem kn.flat {tx : Int} {s3 s4 s5 s9 : jS} (h : kn fs fl fa ((0, o) :: ks) o t0 t1 C Z L σ) (htx : tx = 0 ∧ o = 2 + t0 ∧ t1 ≤ 0 ∧ 0 ≤ t0 ∨ tx = 1 ∧ o = 122 + t1 ∧ 0 ≤ t1) (o1 : o < 242) (e3 : s3 = nO σ 0) (e4 : s4 = nA s3 0 12) (e5 : s5 = mA s4 0 0 o) (e9 : s9 = wa s5 10008 tx (if tx = 0 then t0 else t1) o) (hfs : (fs.all (fun p => decide (1000 ≤ p.1.1 ∨ p.1.2 < 2))) = true) (hfl : (fl.all (fun p => decide (1000 ≤ p.1.1 ∨ p.1.2 < 2))) = true) (hfa : (fa.all (fun p => decide ((1000 ≤ p.1.1 ∨ p.1.2 < 2) ∧ ¬ p.1 = (10008, tx)))) = true) : kn fs fl fa ((0, o + 1) :: ks) (o + 1) (if tx = 0 then t0 + 1 else t0) (if tx = 0 then t1 else t1 + 1) (C + 2) (Z + 14) L s9 := by
  have hko : rk σ 0 = o := h.k rfl
  obtain ⟨h0, h1, h2, h3, h4, ⟨h5, h5b⟩, h6, h7, hb, h9, h10⟩ := h
  have o2 : 2 ≤ o := by omega
  have rs9 : ∀ G x, rs s9 G x = if G / 1000 = 0 ∧ x = o then (if jk G = 0 then 0 else -1) else rs σ G x := fun G x => by
    rw [e9, show rs (wa s5 10008 tx (if tx = 0 then t0 else t1) o) G x = rs s5 G x from rfl, e5, rs_mA, e4, rs_nA, e3, rs_nO, hko]
  have rl9 : ∀ G x, G < 900000 → rl s9 G x = if G = 0 ∧ x = o then 12 else rl σ G x := fun G x hG => by
    rw [e9, show rl (wa s5 10008 tx (if tx = 0 then t0 else t1) o) G x = rl s5 G x from rfl, e5, rl_mA]
    by_cases q : G = 0 ∧ x = o
    · rw [if_pos q, if_pos q, e4, rl_nA, if_pos ⟨rfl, rfl⟩]
    · rw [if_neg q, if_neg q, if_neg (fun w => by have := w.1; unfold jtmp at this; omega), e4, rl_nA, if_neg (fun w => by have := w.1; unfold jtmp at this; omega), e3, rl_nO]
  have ra5 : ∀ G x, G < 900000 → ¬ (G = 0 ∧ x = o) → ra s5 G x = ra σ G x := fun G x hG q => by
    rw [e5, raf_mA, if_neg q, e4, raf_nA, if_neg (fun w => by have := w.1; unfold jtmp at this; omega), e3, raf_nO]
  have ra9 : ∀ G x, G < 900000 → ¬ (G = 0 ∧ x = o) → ¬ (G = 10008 ∧ x = tx) → ra s9 G x = ra σ G x := fun G x hG q q2 => by
    rw [e9]
    unfold wa
    rw [raf_wA, if_neg q2]
    exact ra5 G x hG q
  have rat : ∀ j, ra s9 10008 tx j = if j = (if tx = 0 then t0 else t1) then o else ra σ 10008 tx j := fun j => by
    rw [e9]
    unfold wa
    rw [raf_wA, if_pos ⟨rfl, rfl⟩, ra5 10008 tx (by decide) (by omega)]
    rfl
  refine ⟨by rw [rl9 800000 0 (by decide), if_neg (fun w => by have := w.1; omega)]; exact h0, fun G x w hw => ?_, fun G x w hG hw => ?_, fun G x w hG hw => ?_, fun c' w hw => ?_, ⟨?_, ?_⟩, fun t' => ?_, fun G x hG hp => ?_, fun x x0 x1 => ?_, fun j j0 j1 => ?_, fun j j0 j1 => ?_⟩
  · have hm := of_decide_eq_true (List.all_eq_true.mp hfs _ (kf_mem hw))
    dsimp only at hm
    rw [rs9, if_neg (fun q => by omega)]
    exact h1 G x w hw
  · have hm := of_decide_eq_true (List.all_eq_true.mp hfl _ (kf_mem hw))
    dsimp only at hm
    rw [rl9 G x hG, if_neg (fun q => by omega)]
    exact h2 G x w hG hw
  · have hm := of_decide_eq_true (List.all_eq_true.mp hfa _ (kf_mem hw))
    dsimp only at hm
    rw [ra9 G x hG (fun q => by omega) (fun q => hm.2 (by rw [q.1, q.2]))]
    exact h3 G x w hG hw
  · have hw : (if c' = 0 then some (o + 1) else kk ks c') = some w := hw
    have e : rk s9 c' = if c' = 0 then rk σ 0 + 1 else rk σ c' := by rw [e9, e5, e4, e3]; rfl
    rw [e]
    by_cases q : c' = 0
    · rw [if_pos q] at hw ⊢
      cases hw
      rw [hko]
    · rw [if_neg q] at hw ⊢
      refine h4 c' w ?_
      show (if c' = 0 then some o else kk ks c') = some w
      rw [if_neg q]
      exact hw
  · have e : rc s9 = rc σ + 1 + 1 := by rw [e9, e5, e4, e3]; rfl
    omega
  · have e : rz s9 = rz σ + (ax_nf 0 : Nat) + 12 := by rw [e9, e5, e4, e3]; rfl
    have : (ax_nf 0 : Int) = 2 := by decide
    omega
  · rw [e9, show rl (wa s5 10008 tx (if tx = 0 then t0 else t1) o) (jtmp t') 0 = rl s5 (jtmp t') 0 from rfl, e5, rl_mA, if_neg (fun w => by have := w.1; unfold jtmp at this; omega)]
    by_cases q : jtmp t' = jtmp 0
    · rw [if_pos ⟨q, rfl⟩]; decide
    · rw [if_neg (fun w => q w.1), e4, rl_nA, if_neg (fun w => q w.1), e3, rl_nO]
      exact h6 t'
  · rw [rl9 G x (by omega)] at hp
    by_cases q : G = 0 ∧ x = o
    · exact Or.inr ⟨q.1, by omega, by omega⟩
    · rw [if_neg q] at hp
      rcases h7 G x hG hp with w | w
      · exact Or.inl w
      · exact Or.inr ⟨w.1, w.2.1, by omega⟩
  · rw [rl9 0 x (by decide)]
    by_cases q : x = o
    · rw [if_pos ⟨rfl, q⟩]
    · rw [if_neg (fun w => q w.2)]
      exact hb x x0 (by omega)
  · rcases htx with ⟨a1, a2, a3, a4⟩ | ⟨a1, a2, a3⟩
    · subst a1
      rw [if_pos rfl] at j1
      have e1 : (if (0 : Int) = 0 then t0 else t1) = t0 := if_pos rfl
      rw [rat j, e1]
      by_cases q : j = t0
      · rw [if_pos q]; omega
      · rw [if_neg q]; exact h9 j j0 (by omega)
    · subst a1
      rw [if_neg (by decide)] at j1
      rw [ra9 10008 0 (by decide) (by omega) (by omega)]
      exact h9 j j0 j1
  · rcases htx with ⟨a1, a2, a3, a4⟩ | ⟨a1, a2, a3⟩
    · subst a1
      rw [if_pos rfl] at j1
      omega
    · subst a1
      rw [if_neg (by decide)] at j1
      have e1 : (if (1 : Int) = 0 then t0 else t1) = t1 := if_neg (by decide)
      rw [rat j, e1]
      by_cases q : j = t1
      · rw [if_pos q]; omega
      · rw [if_neg q]; exact h10 j j0 (by omega)
theorem kn.wk (h : kn fs fl fa ks B t0 t1 C Z L σ) (hk : ∀ c v, kk ks' c = some v → kk ks c = some v) : kn fs fl fa ks' B t0 t1 C Z L σ := by
  obtain ⟨h0, h1, h2, h3, h4, h5⟩ := h
  exact ⟨h0, h1, h2, h3, fun c v hv => h4 c v (hk c v hv), h5⟩
theorem kn.k0 (h : kn fs fl fa ks B t0 t1 C Z L σ) (hk : kk ks c = some o) : kn fs fl fa ((c, o) :: ks) B t0 t1 C Z L σ := h.wk (fun c' v hv => by
  have hv : (if c' = c then some o else kk ks c') = some v := hv
  by_cases q : c' = c
  · rw [if_pos q] at hv
    rw [q, hk]
    exact hv
  · rw [if_neg q] at hv
    exact hv)
theorem kn.dA {p : (Nat × Int) × Int} (h : kn fs fl (p :: fa) ks B t0 t1 C Z L σ) (hp : kf fa p.1.1 p.1.2 = none) : kn fs fl fa ks B t0 t1 C Z L σ := by
  obtain ⟨h0, h1, h2, h3, h4⟩ := h
  refine ⟨h0, h1, h2, fun F o v hF hv => h3 F o v hF ?_, h4⟩
  obtain ⟨k, w⟩ := p
  show (if F = k.1 ∧ o = k.2 then some w else kf fa F o) = some v
  by_cases q : F = k.1 ∧ o = k.2
  · dsimp only at hp
    rw [q.1, q.2, hp] at hv
    cases hv
  · rw [if_neg q]
    exact hv
/-- a row's cell is written: one of which nothing is known, or with what stands there -/
theorem kn.mR {i : Int} (h : kn fs fl fa ks B t0 t1 C Z L σ) (e : s1 = wa σ F o i v) (hf : kf fa F o = none ∨ kf fa F o = some v) (h8 : ¬ F = 10008) (hF : F < 900000) : kn fs fl fa ks B t0 t1 C Z L s1 := by
  subst e
  obtain ⟨h0, h1, h2, h3, h4, h5, h6, h7, hb, h9, h10⟩ := h
  refine ⟨h0, h1, h2, fun G x w hG hw => ?_, h4, h5, h6, h7, hb, fun j j0 j1 => ?_, fun j j0 j1 => ?_⟩
  · unfold wa
    rw [raf_wA]
    by_cases q : G = F ∧ x = o
    · rw [if_pos q]
      rw [q.1, q.2] at hw
      rcases hf with w2 | w2
      · rw [w2] at hw; cases hw
      · rw [w2] at hw
        cases hw
        rw [h3 F o v hF w2]
        funext j
        unfold upI
        split <;> rfl
    · rw [if_neg q]
      exact h3 G x w hG hw
  · unfold wa
    rw [raf_wA, if_neg (fun w => h8 w.1.symm)]
    exact h9 j j0 j1
  · unfold wa
    rw [raf_wA, if_neg (fun w => h8 w.1.symm)]
    exact h10 j j0 j1
/-- a text's rows are made -/
theorem k_text {Q : jS → Prop} {tx b : Int} (hn : 2 ≤ n) (hb : tx = 0 ∧ b = 2 ∧ t1 ≤ 0 ∨ tx = 1 ∧ b = 122) (hl : kf fl 10008 tx = some 120) (hfs : (fs.all (fun p => decide (1000 ≤ p.1.1 ∨ p.1.2 < 2))) = true) (hfl : (fl.all (fun p => decide (1000 ≤ p.1.1 ∨ p.1.2 < 2))) = true) (hfa : (fa.all (fun p => decide ((1000 ≤ p.1.1 ∨ p.1.2 < 2) ∧ ¬ p.1 = (10008, tx)))) = true)
    (hq : ∀ σ', kn fs fl fa ((0, b + 120) :: ks) (b + 120) (if tx = 0 then 120 else t0) (if tx = 0 then t1 else 120) (C + 2 * 120) (Z + 14 * 120) L σ' → Q σ') :
    ∀ (m : Nat) (j : Int) (σ : jS), j + ((m : Nat) : Int) = 120 → 0 ≤ j → kn fs fl fa ((0, b + j) :: ks) (b + j) (if tx = 0 then j else t0) (if tx = 0 then t1 else j) (C + 2 * j) (Z + 14 * j) L σ → J n c_Text_init none 74 [some (jo 10 tx), some (ji j)] [] σ (qV Q) := by
  have tx0 : 0 ≤ tx := by omega
  intro m
  induction m with
  | zero =>
    intro j σ hj j0 h
    have e : j = 120 := by omega
    subst e
    refine wp_Text_init_74 ⟨tx0, by rw [h.l (by decide) hl]; omega, ?_⟩
    rw [h.l (by decide) hl, if_pos (by omega)]
    exact hq σ h
  | succ m ih =>
    intro j σ hj j0 h
    have hko : rk σ 0 = b + j := h.k rfl
    refine wp_Text_init_74 ⟨tx0, by rw [h.l (by decide) hl]; omega, ?_⟩
    rw [h.l (by decide) hl, if_neg (by omega), hko]
    refine ⟨by omega, by omega, fun s3 e3 => ⟨by omega, ?_⟩⟩
    refine wp_Flat_init ⟨by omega, by omega, by omega, by omega, fun s4 e4 => ?_⟩
    rw [show max (12 : Int) 1 = 12 by decide] at e4
    refine ⟨?_, fun s5 e5 => ?_⟩
    · rw [e4, rl_nA, if_neg (fun w => by have := w.1; unfold jtmp at this; omega), e3, rl_nO]
      rcases Int.lt_or_le (rl σ 0 (b + j)) 0 with w | w
      · exact w
      · rcases h.2.2.2.2.2.2.2.1 0 (b + j) (by decide) w with q | q
        · cases hk : kf fl 0 (b + j) with
        | none => exact absurd hk q
        | some v =>
          have := of_decide_eq_true (List.all_eq_true.mp hfl _ (kf_mem hk))
          dsimp only at this
          omega
        · omega
    · have e55 : rl s5 10008 tx = 120 := by
        rw [e5, rl_mA, if_neg (fun w => by have := w.1; omega), if_neg (fun w => by have := w.1; unfold jtmp at this; omega), e4, rl_nA, if_neg (fun w => by have := w.1; unfold jtmp at this; omega), e3, rl_nO]
        exact h.l (by decide) hl
      rw [e55]
      refine ⟨by omega, j0, by omega, fun s9 e9 => ⟨⟨by omega, by omega⟩, ?_⟩⟩
      have ej : (if tx = 0 then (if tx = 0 then j else t0) else (if tx = 0 then t1 else j)) = j := by split <;> rfl
      have e9' : s9 = wa s5 10008 tx (if tx = 0 then (if tx = 0 then j else t0) else (if tx = 0 then t1 else j)) (b + j) := by
        rw [ej]
        exact e9
      have f := h.flat (tx := tx) (by
        rcases hb with ⟨w1, w2, w3⟩ | ⟨w1, w2⟩
        · left
          rw [if_pos w1, if_pos w1]
          omega
        · right
          rw [if_neg (by omega)]
          omega) (by omega) e3 e4 e5 e9' hfs hfl hfa
      refine ih (j + 1) s9 (by omega) (by omega) ?_
      have x1 : (if tx = 0 then (if tx = 0 then j else t0) + 1 else (if tx = 0 then j else t0)) = if tx = 0 then j + 1 else t0 := by split <;> rfl
      have x2 : (if tx = 0 then (if tx = 0 then t1 else j) else (if tx = 0 then t1 else j) + 1) = if tx = 0 then t1 else j + 1 := by split <;> rfl
      rw [x1, x2, show b + j + 1 = b + (j + 1) by omega, show C + 2 * j + 2 = C + 2 * (j + 1) by omega, show Z + 14 * j + 14 = Z + 14 * (j + 1) by omega] at f
      exact f
theorem k_textA {Q : jS → Prop} (hn : 2 ≤ n) (h : kn fs fl fa ((0, 2) :: ks) 2 0 0 C Z L σ) (hl : kf fl 10008 0 = some 120) (hfs : (fs.all (fun p => decide (1000 ≤ p.1.1 ∨ p.1.2 < 2))) = true) (hfl : (fl.all (fun p => decide (1000 ≤ p.1.1 ∨ p.1.2 < 2))) = true) (hfa : (fa.all (fun p => decide ((1000 ≤ p.1.1 ∨ p.1.2 < 2) ∧ ¬ p.1 = (10008, 0)))) = true)
    (hq : ∀ σ', kn fs fl fa ((0, 122) :: ks) 122 120 0 (C + 240) (Z + 1680) L σ' → Q σ') : J n c_Text_init none 74 [some (jo 10 0), some (ji 0)] [] σ (qV Q) := by
  refine k_text (t0 := 0) (t1 := 0) (b := 2) (tx := 0) (C := C) (Z := Z) hn (Or.inl ⟨rfl, rfl, by decide⟩) hl hfs hfl hfa (fun σ' h' => hq σ' h') 120 0 σ (by decide) (by decide) ?_
  rw [show (2 : Int) + 0 = 2 by decide, if_pos rfl, show C + 2 * 0 = C by omega, show Z + 14 * 0 = Z by omega]
  exact h
theorem k_textB {Q : jS → Prop} (hn : 2 ≤ n) (h : kn fs fl fa ((0, 122) :: ks) 122 120 0 C Z L σ) (hl : kf fl 10008 1 = some 120) (hfs : (fs.all (fun p => decide (1000 ≤ p.1.1 ∨ p.1.2 < 2))) = true) (hfl : (fl.all (fun p => decide (1000 ≤ p.1.1 ∨ p.1.2 < 2))) = true) (hfa : (fa.all (fun p => decide ((1000 ≤ p.1.1 ∨ p.1.2 < 2) ∧ ¬ p.1 = (10008, 1)))) = true)
    (hq : ∀ σ', kn fs fl fa ((0, 242) :: ks) 242 120 120 (C + 240) (Z + 1680) L σ' → Q σ') : J n c_Text_init none 74 [some (jo 10 1), some (ji 0)] [] σ (qV Q) := by
  refine k_text (t0 := 120) (t1 := 0) (b := 122) (tx := 1) (C := C) (Z := Z) hn (Or.inr ⟨rfl, rfl⟩) hl hfs hfl hfa (fun σ' h' => hq σ' h') 120 0 σ (by decide) (by decide) ?_
  rw [show (122 : Int) + 0 = 122 by decide, if_neg (by decide), if_neg (by decide), show C + 2 * 0 = C by omega, show Z + 14 * 0 = Z by omega]
  exact h
/-- a type's row is made -/
theorem kn.fadd {Q : jS → Prop} (h : kn fs fl fa ks B t0 t1 C Z L σ) (o0 : 0 ≤ o) (hs : kf fs 1 o = some 0) (hl : kf fl 0 o = some 12) (ha : kf fa 0 o = some 0) (hq : ∀ σ', kn (((1, o), 1) :: fs) fl fa ks B t0 t1 C Z L σ' → ra σ' 12001 0 = ra σ 12001 0 → Q σ') : TrV n i_Flat_add [jo 0 o, ji 0] σ Q := by
  refine wp_Flat_add ⟨o0, ?_⟩
  rw [h.l (by decide) hl, h.s hs]
  refine ⟨by decide, ?_⟩
  rw [if_neg (by decide)]
  refine ⟨by decide, by decide, fun s5 e5 => ?_⟩
  have K := h.mR e5 (Or.inr ha) (by decide) (by decide)
  have r5 : rs s5 1 o = 0 := K.s hs
  rw [r5]
  refine ⟨⟨by decide, by decide⟩, fun s9 e9 => hq s9 (K.mW e9) ?_⟩
  have e : ra s9 12001 0 = ra s5 12001 0 := by rw [e9]; rfl
  rw [e, e5]
  unfold wa
  rw [raf_wA, if_neg (fun w => absurd w.1 (by decide))]
end ZAg
