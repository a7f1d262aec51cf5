/-! How many values: closed goals, what a given one makes of them. -/
section ZVa
variable {g g' : zH} {N N' : Int} {β β' new : List (Int × Int)} {x y u t a b : Int} {T : zT} {r : List Int}
/-- no letter in it -/
def clr (r : List Int) : Prop := ∀ t, t ∈ r → 0 ≤ t
theorem ex_cl_app (hz : zok g N) (hb : bok g N β) (ha : acy g N β) (hb' : bok g N β') (ha' : acy g N β') (hs : ∀ ρ, sol g N β' ρ → sol g N β ρ) (x0 : 0 ≤ x) (x1 : x < N) (hc : clr (ex g N β x)) : ex g N β' x = ex g N β x := by
  have := ex_pr hz hb ha (hs _ (ex_sol hz hb' ha')) x x0 x1
  rw [sbt_cl hc] at this
  exact this
def mz3 (g : zH) (N : Int) (β : List (Int × Int)) (P : List (Int × Int)) : Nat := (P.map (fun p => (ex g N β p.2).length)).sum
theorem mz3_cons {p : Int × Int} {P : List (Int × Int)} : mz3 g N β (p :: P) = (ex g N β p.2).length + mz3 g N β P := by
  unfold mz3
  rw [List.map_cons, List.sum_cons]
theorem mz3_pud (f : Nat → Int × Int) (k j : Nat) (P : List (Int × Int)) : mz3 g N β (pud f k j P) = ((List.range' k j).map (fun k => (ex g N β (f k).2).length)).sum + mz3 g N β P := by
  unfold mz3 pud
  rw [List.map_append, List.sum_append, List.map_map]
  rfl
theorem ex_kid (hz : zok g N) (hb : bok g N β) (ha : acy g N β) (y0 : 0 ≤ y) (y1 : y < N) (hu : ¬ gh g y = -1) {k : Nat} (hk : k < pN (gh g y)) (ht : t ∈ ex g N β (gp g y k)) : t ∈ ex g N β y := by
  rw [ex_con hz hb ha y0 y1 hu]
  refine List.mem_cons_of_mem _ (List.mem_flatten.mpr ⟨_, List.mem_map.mpr ⟨k, List.mem_range.mpr hk, rfl⟩, ht⟩)
/-- steps against closed types are no more than these are long -/
theorem crun_cl (hz : zok g N) : ∀ (k : Nat) (β P : List (Int × Int)), crun g N k β P → bok g N β → acy g N β → (∀ p, p ∈ P → (0 ≤ p.1 ∧ p.1 < N ∧ 0 ≤ p.2 ∧ p.2 < N) ∧ clr (ex g N β p.2)) → k ≤ mz3 g N β P := by
  intro k
  induction k with
  | zero => intro β P _ _ _ _; exact Nat.zero_le _
  | succ k ih =>
    intro β P h hb ha hw
    cases P with
    | nil => exact False.elim h
    | cons p P =>
      obtain ⟨a, b⟩ := p
      obtain ⟨⟨a0, a1, b0, b1⟩, hc⟩ := hw _ List.mem_cons_self
      have hwP : ∀ p, p ∈ P → (0 ≤ p.1 ∧ p.1 < N ∧ 0 ≤ p.2 ∧ p.2 < N) ∧ clr (ex g N β p.2) := fun p hp => hw p (List.mem_cons_of_mem _ hp)
      obtain ⟨i1, i2, i3, i4, i5, -⟩ := sv_all hz hb ha a a0 a1
      obtain ⟨k1, k2, k3, k4, k5, -⟩ := sv_all hz hb ha b b0 b1
      dsimp only at hc a0 a1 b0 b1
      have e3 : mz3 g N β ((a, b) :: P) = (ex g N β b).length + mz3 g N β P := mz3_cons
      have hne := ex_ne hz hb ha b0 b1
      rw [e3]
      rcases h with ⟨e, h⟩ | ⟨e, gb, m, h⟩ | ⟨e, gb, ga, m, h⟩ | ⟨e, gb, ga, he, h⟩
      · have := ih β P h hb ha hwP
        omega
      · have e4 := ex_sv hz hb ha b0 b1
        rw [if_pos gb] at e4
        have := hc (-1 - sv g N β b) (by rw [e4]; simp)
        omega
      · have hf := i1 ga
        have hb2 := bind_bok hb i2 i3 ga hf k2 k3
        have ha2 := bind_acy hz hb ha i2 i3 ga hf k2 k3 m
        have hx : ∀ p, p ∈ P → ex g N ((sv g N β a, sv g N β b) :: β) p.2 = ex g N β p.2 := fun p hp => ex_cl_app hz hb ha hb2 ha2 (fun ρ hρ => ((bind_sol i2 i3 ga hf k2).mp hρ).1) (hwP p hp).1.2.2.1 (hwP p hp).1.2.2.2 (hwP p hp).2
        have h1 := ih _ P h hb2 ha2 (fun p hp => ⟨(hwP p hp).1, by rw [hx p hp]; exact (hwP p hp).2⟩)
        have e4 : mz3 g N ((sv g N β a, sv g N β b) :: β) P = mz3 g N β P := by
          unfold mz3
          exact congrArg List.sum (List.map_congr_left (fun p hp => by rw [hx p hp]))
        omega
      · have hcb : clr (ex g N β (sv g N β b)) := by rw [k4]; exact hc
        have h1 := ih β _ h hb ha (fun p hp => by
          rcases pud_mem.mp hp with ⟨q, hq, e2⟩ | w
          · rw [e2]
            have c1 := (hz _ i2 i3).2 q hq
            have c2 := (hz _ k2 k3).2 q (by rw [← he]; exact hq)
            exact ⟨⟨c1.1, by omega, c2.1, by omega⟩, fun t ht => hcb t (ex_kid hz hb ha k2 k3 gb (by rw [← he]; exact hq) ht)⟩
          · exact hwP p w)
        rw [mz3_pud] at h1
        have e4 := ex_clen hz hb ha k2 k3 gb
        rw [k4, ← he] at e4
        dsimp only at h1
        omega
theorem bl_key : ∀ {β : List (Int × Int)}, ¬ bl β u = -1 → ∃ t, (u, t) ∈ β := by
  intro β
  induction β with
  | nil => intro h; exact absurd rfl h
  | cons p β ih =>
    obtain ⟨v, t⟩ := p
    intro h
    by_cases q : u = v
    · exact ⟨t, by rw [q]; exact List.mem_cons_self⟩
    · rw [bl_cons_ne q] at h
      obtain ⟨t', ht⟩ := ih h
      exact ⟨t', List.mem_cons_of_mem _ ht⟩
theorem bok_all : ∀ {β : List (Int × Int)}, bok g N β → ∀ p, p ∈ β → (0 ≤ p.1 ∧ p.1 < N ∧ gh g p.1 = -1) ∧ 0 ≤ p.2 ∧ p.2 < N := by
  intro β
  induction β with
  | nil => intro _ p hp; cases hp
  | cons q β ih =>
    obtain ⟨v, t⟩ := q
    rintro ⟨⟨h1, h2, h3, h4, h5, h6⟩, hb⟩ p hp
    rcases List.mem_cons.mp hp with e | e
    · rw [e]; exact ⟨⟨h1, h2, h3⟩, h4, h5⟩
    · exact ih hb p e
theorem rep_self (hb : bok g N β) (ha : acy g N β) : rep g N β β := ⟨hb, ha, fun ρ => by
  rw [sol_iff]
  refine ⟨fun h => ⟨h.1, fun p hp => ?_⟩, fun h => ⟨h.1, fun n h0 h1 hu hf => ?_⟩⟩
  · obtain ⟨⟨c1, c2, c3⟩, c4, c5⟩ := bok_all hb p hp
    have e : bl β p.1 = p.2 := bl_mem hb (by exact hp)
    have := h.2 p.1 c1 c2 c3 (by omega)
    rw [e] at this
    exact this
  · obtain ⟨t, ht⟩ := bl_key hf
    have e := bl_mem hb ht
    have := h.2 _ ht
    rw [e]
    exact this⟩
/-- letters that are known are laid no second time -/
theorem lay_same {vs : Int → Int} : ∀ {r : List Int}, (∀ t, t ∈ r → t < 0 → ¬ vs (-1 - t) = -1) → (layR r g N vs).2.2.1 = vs := by
  intro r
  induction r with
  | nil => intro _; rfl
  | cons t l ih =>
    intro h
    have ih := ih (fun t ht => h t (List.mem_cons_of_mem _ ht))
    show (lay1 t (layR l g N vs)).2.2.1 = vs
    revert ih
    generalize layR l g N vs = A
    intro ih
    unfold lay1
    by_cases q : t < 0
    · rw [if_pos q, if_neg (by rw [ih]; exact h t List.mem_cons_self q)]
      exact ih
    · rw [if_neg q]
      exact ih
def rgN (N N' : Int) : List Int := (zrg N').filter (fun m => decide (N ≤ m))
theorem rgN_mem {m : Int} (h0 : 0 ≤ N) : m ∈ rgN N N' ↔ N ≤ m ∧ m < N' := by
  unfold rgN
  rw [List.mem_filter, mem_zrg_iff, decide_eq_true_eq]
  exact ⟨fun q => ⟨q.2, q.1.2⟩, fun q => ⟨⟨by omega, q.2⟩, q.1⟩⟩
theorem rgN_len (h0 : 0 ≤ N) : ∀ (j : Nat), (rgN N (N + (j : Nat))).length = j := by
  intro j
  induction j with
  | zero =>
    refine List.length_eq_zero_iff.mpr (List.eq_nil_iff_forall_not_mem.mpr (fun m hm => ?_))
    have := (rgN_mem h0).mp hm
    omega
  | succ j ih =>
    have e1 : zrg (N + ((j + 1 : Nat) : Int)) = zrg (N + (j : Nat)) ++ [N + (j : Nat)] := by
      unfold zrg
      rw [show (N + ((j + 1 : Nat) : Int)).toNat = (N + (j : Nat)).toNat + 1 by omega, List.range_succ, List.map_append]
      simp
      omega
    have e2 : rgN N (N + ((j + 1 : Nat) : Int)) = rgN N (N + (j : Nat)) ++ [N + (j : Nat)] := by
      unfold rgN
      rw [e1, List.filter_append]
      refine congrArg _ ?_
      rw [List.filter_cons, if_pos (by rw [decide_eq_true_eq]; omega)]
      rfl
    rw [e2, List.length_append, ih]
    rfl
theorem lns_v {k : Int} {V : List Int} {vs : Int → Int} (hV : ∀ v, ¬ vs v = -1 → vs v ∈ V) : ∀ (j i : Nat) (g : zH) (N : Int), zok g N → 0 ≤ N → vok g N vs → (∀ i', i ≤ i' → i' < i + j → rwk (tR T k i') ∧ ∀ t, t ∈ tR T k i' → t < 0 → ¬ vs (-1 - t) = -1) → ∀ q, q < j → ∃ R : List Int, R.length ≤ 12 ∧ (∀ m, m ∈ R → N ≤ m ∧ m < (layNs T k j i g N vs).2.1) ∧ (layNs T k j i g N vs).2.2.2.getD q 0 ∈ R ++ V ∧ (∀ m, m ∈ R → ∀ p, p < pN (gh (layNs T k j i g N vs).1 m) → gp (layNs T k j i g N vs).1 m p ∈ R ++ V) ∧ ∀ ρ, str (layNs T k j i g N vs).1 (layNs T k j i g N vs).2.1 ρ → ρ ((layNs T k j i g N vs).2.2.2.getD q 0) = sbt (fun t => ρ (vs (-1 - t))) (tR T k (i + q)) := by
  intro j
  induction j with
  | zero => intro i g N _ _ _ _ q hq; exact absurd hq (Nat.not_lt_zero q)
  | succ j ih =>
    intro i g N hz h0 hv hr q hq
    obtain ⟨hri, hrv⟩ := hr i (Nat.le_refl _) (by omega)
    have hsame : (layR (tR T k i) g N vs).2.2.1 = vs := lay_same hrv
    have hl := lok_all hz h0 hv hri.1 hri.2.1
    have hrt := lay_root hl hri.1
    obtain ⟨l1, l2, l3, l4, l5, l6, l6b, l7, -, l9, l10, l11, l13, l14⟩ := hl
    have hlen := hri.2.2
    rw [hsame] at l5 hrt
    obtain ⟨a1, a2, a3, a4, a5, a6, a7, a8⟩ := lns_ok (T := T) (k := k) j (i + 1) _ _ _ l4 (by omega) l5 (fun i' h1 h2 => (hr i' (by omega) (by omega)).1)
    have e1 : (layNs T k (j + 1) i g N vs).1 = (layNs T k j (i + 1) (layR (tR T k i) g N vs).1 (layR (tR T k i) g N vs).2.1 vs).1 := by
      show (layNs T k j (i + 1) _ _ (layR (tR T k i) g N vs).2.2.1).1 = _
      rw [hsame]
    have e2 : (layNs T k (j + 1) i g N vs).2.1 = (layNs T k j (i + 1) (layR (tR T k i) g N vs).1 (layR (tR T k i) g N vs).2.1 vs).2.1 := by
      show (layNs T k j (i + 1) _ _ (layR (tR T k i) g N vs).2.2.1).2.1 = _
      rw [hsame]
    have e3 : (layNs T k (j + 1) i g N vs).2.2.2 = (layR (tR T k i) g N vs).2.2.2.headD 0 :: (layNs T k j (i + 1) (layR (tR T k i) g N vs).1 (layR (tR T k i) g N vs).2.1 vs).2.2.2 := by
      show _ :: (layNs T k j (i + 1) _ _ (layR (tR T k i) g N vs).2.2.1).2.2.2 = _
      rw [hsame]
    rw [e1, e2, e3]
    cases q with
    | succ q =>
      obtain ⟨R, c1, c2, c3, c4, c5⟩ := ih (i + 1) _ _ l4 (by omega) l5 (fun i' h1 h2 => hr i' (by omega) (by omega)) q (by omega)
      refine ⟨R, c1, fun m hm => ⟨by have := (c2 m hm).1; omega, (c2 m hm).2⟩, ?_, c4, fun ρ hρ => ?_⟩
      · rw [List.getD_cons_succ]; exact c3
      · rw [List.getD_cons_succ, show i + (q + 1) = i + 1 + q by omega]; exact c5 ρ hρ
    | zero =>
      rw [List.getD_cons_zero]
      have hP : ∀ m, N ≤ m → (m ∈ rgN N (layR (tR T k i) g N vs).2.1 ∨ m ∈ V ∨ (layR (tR T k i) g N vs).2.1 ≤ m) := fun m hm => by
        by_cases w : m < (layR (tR T k i) g N vs).2.1
        · exact Or.inl ((rgN_mem h0).mpr ⟨hm, w⟩)
        · exact Or.inr (Or.inr (by omega))
      obtain ⟨p1, p2⟩ := l14 (fun m => m ∈ rgN N (layR (tR T k i) g N vs).2.1 ∨ m ∈ V ∨ (layR (tR T k i) g N vs).2.1 ≤ m) (fun v h => Or.inr (Or.inl (by rw [hsame] at h ⊢; exact hV v h))) hP
      refine ⟨rgN N (layR (tR T k i) g N vs).2.1, ?_, fun m hm => ?_, ?_, fun m hm p hp => ?_, fun ρ hρ => ?_⟩
      · have := rgN_len h0 ((layR (tR T k i) g N vs).2.1 - N).toNat
        rw [show N + ((((layR (tR T k i) g N vs).2.1 - N).toNat : Nat) : Int) = (layR (tR T k i) g N vs).2.1 by omega] at this
        omega
      · have := (rgN_mem h0).mp hm
        exact ⟨this.1, by omega⟩
      · rcases p2 _ hrt.2.2.2 with w | w | w
        · exact List.mem_append_left _ w
        · exact List.mem_append_right _ w
        · have := hrt.2.1
          omega
      · have hm2 := (rgN_mem h0).mp hm
        have b := a3 m (by omega) hm2.2
        rw [b.1] at hp
        have hlt := ((l4 m (by omega) hm2.2).2 p hp)
        rw [b.2 p]
        rcases p1 m hm2.1 hm2.2 p hp with w | w | w
        · exact List.mem_append_left _ w
        · exact List.mem_append_right _ w
        · omega
      · rw [Nat.add_zero]
        exact hrt.2.2.1 ρ (str_low a3 a1 l4 hρ)
/-- all that is laid of a given one whose NEEDS have no letters of their own -/
theorem gv_v {k : Int} (hT : tok T) (k0 : 0 ≤ k) (k1 : k < tG T) (hvar : ∀ i : Nat, i ≤ tN T k → ∀ t, t ∈ tR T k i → t < 0 → t ∈ tR T k 0) (hz : zok g N) (h0 : 0 ≤ N) : ∃ (R0 : List Int) (vs1 : Int → Int), R0.length ≤ 12 ∧ (∀ m, m ∈ R0 → N ≤ m ∧ m < (layGv T k g N).2.1) ∧ (layGv T k g N).2.2.1 ∈ R0 ∧ (∀ m, m ∈ R0 → ∀ p, p < pN (gh (layGv T k g N).1 m) → gp (layGv T k g N).1 m p ∈ R0) ∧ (∀ t, t ∈ tR T k 0 → t < 0 → vs1 (-1 - t) ∈ R0) ∧
    (∀ ρ, str (layGv T k g N).1 (layGv T k g N).2.1 ρ → ρ (layGv T k g N).2.2.1 = sbt (fun t => ρ (vs1 (-1 - t))) (tR T k 0)) ∧
    (∀ ρ0, str g N ρ0 → ∀ θ : Int → List Int, (∀ v, Typ (θ v)) → ∃ ρ, str (layGv T k g N).1 (layGv T k g N).2.1 ρ ∧ (∀ m, m < N → ρ m = ρ0 m) ∧ ρ (layGv T k g N).2.2.1 = sbt θ (tR T k 0)) ∧
    ∀ q : Nat, q < (tN T k).toNat → ∃ R : List Int, R.length ≤ 12 ∧ (∀ m, m ∈ R → N ≤ m ∧ m < (layGv T k g N).2.1) ∧ (layGv T k g N).2.2.2.getD q 0 ∈ R ++ R0 ∧ (∀ m, m ∈ R → ∀ p, p < pN (gh (layGv T k g N).1 m) → gp (layGv T k g N).1 m p ∈ R ++ R0) ∧ ∀ ρ, str (layGv T k g N).1 (layGv T k g N).2.1 ρ → ρ ((layGv T k g N).2.2.2.getD q 0) = sbt (fun t => ρ (vs1 (-1 - t))) (tR T k (q + 1)) := by
  obtain ⟨-, -, t1, t2, t3⟩ := hT.2.2.2.2.2 k k0 k1
  have hr0 := t3 0 t1
  have hl := lok_all hz h0 (vok_n g N) hr0.1 hr0.2.1
  have hrt := lay_root hl hr0.1
  obtain ⟨l1, l2, l3, l4, l5, l6, l6b, l7, -, l9, l10, l11, l13, l14⟩ := hl
  have hlen := hr0.2.2
  obtain ⟨a1, a2, a3, a4, a5, a6, a7, a8⟩ := lns_ok (T := T) (k := k) (tN T k).toNat 1 _ _ _ l4 (by omega) l5 (fun i' h1 h2 => t3 i' (by omega))
  have hR : ∀ v, ¬ (layR (tR T k 0) g N (fun _ => -1)).2.2.1 v = -1 → (layR (tR T k 0) g N (fun _ => -1)).2.2.1 v ∈ rgN N (layR (tR T k 0) g N (fun _ => -1)).2.1 := fun v hv => by
    have c1 := l6b v hv rfl
    have c2 := (l5 v).resolve_left hv
    exact (rgN_mem h0).mpr ⟨c1, c2.2.1⟩
  have hns := lns_v (T := T) (k := k) hR (tN T k).toNat 1 _ _ l4 (by omega) l5 (fun i' h1 h2 => ⟨t3 i' (by omega), fun t ht hn => l7 t (hvar i' (by omega) t ht hn) hn⟩)
  obtain ⟨p1, p2⟩ := l14 (fun m => m ∈ rgN N (layR (tR T k 0) g N (fun _ => -1)).2.1 ∨ (layR (tR T k 0) g N (fun _ => -1)).2.1 ≤ m) (fun v h => Or.inl (hR v h)) (fun m hm => by
    by_cases w : m < (layR (tR T k 0) g N (fun _ => -1)).2.1
    · exact Or.inl ((rgN_mem h0).mpr ⟨hm, w⟩)
    · exact Or.inr (by omega))
  refine ⟨rgN N (layR (tR T k 0) g N (fun _ => -1)).2.1, (layR (tR T k 0) g N (fun _ => -1)).2.2.1, ?_, fun m hm => ?_, ?_, fun m hm p hp => ?_, fun t ht hn => hR _ (l7 t ht hn), fun ρ hρ => hrt.2.2.1 ρ (str_low a3 a1 l4 hρ), fun ρ0 hρ0 θ hθ => ?_, fun q hq => ?_⟩
  · have := rgN_len h0 ((layR (tR T k 0) g N (fun _ => -1)).2.1 - N).toNat
    rw [show N + ((((layR (tR T k 0) g N (fun _ => -1)).2.1 - N).toNat : Nat) : Int) = (layR (tR T k 0) g N (fun _ => -1)).2.1 by omega] at this
    omega
  · have := (rgN_mem h0).mp hm
    exact ⟨this.1, Int.lt_of_lt_of_le this.2 a1⟩
  · rcases p2 _ hrt.2.2.2 with w | w
    · exact w
    · have := hrt.2.1
      omega
  · have hm2 := (rgN_mem h0).mp hm
    have b := a3 m (by omega) hm2.2
    have hp' : p < pN (gh (layR (tR T k 0) g N (fun _ => -1)).1 m) := by rw [← b.1]; exact hp
    have hlt := ((l4 m (by omega) hm2.2).2 p hp')
    have e : gp (layGv T k g N).1 m p = gp (layR (tR T k 0) g N (fun _ => -1)).1 m p := b.2 p
    rw [e]
    rcases p1 m hm2.1 hm2.2 p hp' with w | w
    · exact w
    · omega
  · obtain ⟨ρ1, s1, s2, s3⟩ := l13 ρ0 (fun v => θ (-1 - v)) hρ0 (fun v => hθ _) (fun v hv => absurd rfl hv)
    obtain ⟨j, hj⟩ := Int.eq_ofNat_of_zero_le (show 0 ≤ (layGv T k g N).2.1 - (layR (tR T k 0) g N (fun _ => -1)).2.1 from by have : (layR (tR T k 0) g N (fun _ => -1)).2.1 ≤ (layGv T k g N).2.1 := a1; omega)
    have ej : (layGv T k g N).2.1 = (layR (tR T k 0) g N (fun _ => -1)).2.1 + (j : Nat) := by omega
    obtain ⟨ρ2, q1, q2⟩ := str_ext (by omega) s1 a3 j (by rw [← ej]; exact a4)
    refine ⟨ρ2, by rw [ej]; exact q1, fun m hm => by rw [q2 m (by omega), s2 m hm], ?_⟩
    have e : ρ2 (layGv T k g N).2.2.1 = ρ1 ((layR (tR T k 0) g N (fun _ => -1)).2.2.2.headD 0) := q2 _ hrt.2.1
    rw [e, hrt.2.2.1 ρ1 s1]
    refine sbt_ext (fun t ht hn => ?_)
    rw [s3 (-1 - t) (l7 t ht hn), show -1 - (-1 - t) = t by omega]
  · obtain ⟨R, c1, c2, c3, c4, c5⟩ := hns q hq
    refine ⟨R, c1, fun m hm => ⟨by have := (c2 m hm).1; omega, (c2 m hm).2⟩, c3, c4, fun ρ hρ => ?_⟩
    rw [Nat.add_comm q 1]
    exact c5 ρ hρ
end ZVa
