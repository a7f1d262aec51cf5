/-! How many steps: what a run visits, and what it ties. -/
theorem sm_le {α : Type} {f f' : α → Nat} : ∀ {l : List α}, (∀ a, a ∈ l → f' a ≤ f a) → (l.map f').sum ≤ (l.map f).sum := by
  intro l
  induction l with
  | nil => intro _; exact Nat.le_refl _
  | cons a l ih =>
    intro h
    have h1 := ih (fun b hb => h b (List.mem_cons_of_mem _ hb))
    have h2 := h a List.mem_cons_self
    rw [List.map_cons, List.map_cons, List.sum_cons, List.sum_cons]
    omega
theorem sm_lt {α : Type} {f f' : α → Nat} {c : α} : ∀ {l : List α}, (∀ a, a ∈ l → f' a ≤ f a) → c ∈ l → f' c + 1 ≤ f c → (l.map f').sum + 1 ≤ (l.map f).sum := by
  intro l
  induction l with
  | nil => intro _ h; cases h
  | cons a l ih =>
    intro h hc hl
    have h1 := sm_le (fun b hb => h b (List.mem_cons_of_mem _ hb))
    have h2 := h a List.mem_cons_self
    rw [List.map_cons, List.map_cons, List.sum_cons, List.sum_cons]
    rcases List.mem_cons.mp hc with w | w
    · rw [w] at hl; omega
    · have := ih (fun b hb => h b (List.mem_cons_of_mem _ hb)) w hl
      omega
def psC (g : zH) (N : Int) (cols : List (List Int)) (β : List (Int × Int)) : Nat := (cols.map (fun c => dct (c.map (sv g N β)))).sum
def nbC (g : zH) (N : Int) (βe : List (Int × Int)) (v : List Int) (β : List (Int × Int)) : Nat := (β.filter (fun p => decide (ex g N βe p.1 = v))).length
def chS (g : zH) (f : Int × Int → Nat) (A B : Int) : Nat := ((List.range' 0 (pN (gh g A))).map (fun i => f (gp g A i, gp g B i))).sum
/-- a pair that is no one node in the end -/
def badP (g : zH) (N : Int) (βe : List (Int × Int)) (p : Int × Int) : Bool := decide (¬ sv g N βe p.1 = sv g N βe p.2)
section ZMp
variable {g : zH} {N : Int} {β βe : List (Int × Int)} {x y u t : Int} {PL : List Int} {Or' : Int × Int → Prop}
theorem psC_bind (h : ∀ m, 0 ≤ m → m < N → sv g N ((u, t) :: β) m = if sv g N β m = u then t else sv g N β m) {c : List Int} (hc : ∀ n, n ∈ c → 0 ≤ n ∧ n < N) : c.map (sv g N ((u, t) :: β)) = (c.map (sv g N β)).map (fun m => if m = u then t else m) := by
  rw [List.map_map]
  exact List.map_congr_left (fun n hn => h n (hc n hn).1 (hc n hn).2)
theorem run_all (hz : zok g N) (hbe : bok g N βe) (hae : acy g N βe) (hOr : ∀ A B i, A ∈ PL → B ∈ PL → ¬ gh g A = -1 → ¬ gh g B = -1 → gh g A = gh g B → ex g N βe A = ex g N βe B → i < pN (gh g A) → Or' (gp g A i, gp g B i)) :
    ∀ (k : Nat) (β P : List (Int × Int)), crE g N βe k β P → bok g N β → acy g N β → sml g N β PL → inN N P → (∀ p, p ∈ P → sv g N β p.1 ∈ PL ∧ sv g N β p.2 ∈ PL ∧ Or' p) →
    (∃ L : List (Int × Int), L.length = k ∧
      (∀ f, (L.map f).sum = (P.map f).sum + ((L.filter (badP g N βe)).map (fun p => chS g f (sv g N βe p.1) (sv g N βe p.2))).sum) ∧
      (∀ p, p ∈ L → ex g N βe p.1 = ex g N βe p.2 ∧ Or' p ∧ (0 ≤ p.1 ∧ p.1 < N ∧ 0 ≤ p.2 ∧ p.2 < N) ∧ (¬ sv g N βe p.1 = sv g N βe p.2 → sv g N βe p.1 ∈ PL ∧ sv g N βe p.2 ∈ PL ∧ ¬ gh g (sv g N βe p.1) = -1 ∧ gh g (sv g N βe p.1) = gh g (sv g N βe p.2))) ∧
      (∀ Z : List Int → Prop, (∀ n i, 0 ≤ n → n < N → ¬ gh g n = -1 → i < pN (gh g n) → Z (ex g N βe n) → Z (ex g N βe (gp g n i))) → (∀ p, p ∈ P → Z (ex g N βe p.1)) → ∀ p, p ∈ L → Z (ex g N βe p.1))) ∧
    (∀ v cols, (∀ p, Or' p → ex g N βe p.1 = v → ∃ c, c ∈ cols ∧ p.1 ∈ c ∧ p.2 ∈ c) → (∀ c, c ∈ cols → ∀ n, n ∈ c → 0 ≤ n ∧ n < N) → psC g N cols βe + nbC g N βe v βe ≤ psC g N cols β + nbC g N βe v β) ∧ ((∀ n, n ∈ PL → sv g N β n ∈ PL) → ∀ n, n ∈ PL → sv g N βe n ∈ PL) := by
  intro k
  induction k with
  | zero =>
    intro β P h hb ha hs hw hP
    obtain ⟨e1, e2⟩ := h
    rw [e1, e2]
    exact ⟨⟨[], rfl, fun f => rfl, fun p hp => (by cases hp), fun Z _ _ p hp => (by cases hp)⟩, fun v cols _ _ => Nat.le_refl _, fun h => h⟩
  | succ k ih =>
    intro β P h hb ha hs hw hP
    cases P with
    | nil => exact False.elim h
    | cons p P =>
      obtain ⟨a, b⟩ := p
      have hfin := crE_fin hz (k + 1) β ((a, b) :: P) h hb ha hw
      obtain ⟨-, -, f3, f4⟩ := hfin
      obtain ⟨f5, f6⟩ := f3 _ (ex_sol hz hbe hae)
      obtain ⟨f7, f8⟩ := peq_cons.mp f6
      obtain ⟨a0, a1, b0, b1⟩ := hw _ List.mem_cons_self
      obtain ⟨pa, pb, po⟩ := hP _ List.mem_cons_self
      dsimp only at a0 a1 b0 b1 pa pb
      have hwP : inN N P := fun p hp => hw p (List.mem_cons_of_mem _ hp)
      have hPP : ∀ p, p ∈ P → sv g N β p.1 ∈ PL ∧ sv g N β p.2 ∈ PL ∧ Or' p := fun p hp => hP p (List.mem_cons_of_mem _ hp)
      obtain ⟨i1, i2, i3, i4, i5, -⟩ := sv_all hz hb ha a a0 a1
      obtain ⟨k1, k2, k3, k4, k5, -⟩ := sv_all hz hb ha b b0 b1
      have same : sv g N βe a = sv g N βe b → ∀ {β2 : List (Int × Int)} (L : List (Int × Int)), (L.length = k ∧
        (∀ f, (L.map f).sum = (P.map f).sum + ((L.filter (badP g N βe)).map (fun p => chS g f (sv g N βe p.1) (sv g N βe p.2))).sum) ∧
        (∀ p, p ∈ L → ex g N βe p.1 = ex g N βe p.2 ∧ Or' p ∧ (0 ≤ p.1 ∧ p.1 < N ∧ 0 ≤ p.2 ∧ p.2 < N) ∧ (¬ sv g N βe p.1 = sv g N βe p.2 → sv g N βe p.1 ∈ PL ∧ sv g N βe p.2 ∈ PL ∧ ¬ gh g (sv g N βe p.1) = -1 ∧ gh g (sv g N βe p.1) = gh g (sv g N βe p.2))) ∧
        (∀ Z : List Int → Prop, (∀ n i, 0 ≤ n → n < N → ¬ gh g n = -1 → i < pN (gh g n) → Z (ex g N βe n) → Z (ex g N βe (gp g n i))) → (∀ p, p ∈ P → Z (ex g N βe p.1)) → ∀ p, p ∈ L → Z (ex g N βe p.1))) → ∃ L : List (Int × Int), L.length = k + 1 ∧
        (∀ f, (L.map f).sum = (((a, b) :: P).map f).sum + ((L.filter (badP g N βe)).map (fun p => chS g f (sv g N βe p.1) (sv g N βe p.2))).sum) ∧
        (∀ p, p ∈ L → ex g N βe p.1 = ex g N βe p.2 ∧ Or' p ∧ (0 ≤ p.1 ∧ p.1 < N ∧ 0 ≤ p.2 ∧ p.2 < N) ∧ (¬ sv g N βe p.1 = sv g N βe p.2 → sv g N βe p.1 ∈ PL ∧ sv g N βe p.2 ∈ PL ∧ ¬ gh g (sv g N βe p.1) = -1 ∧ gh g (sv g N βe p.1) = gh g (sv g N βe p.2))) ∧
        (∀ Z : List Int → Prop, (∀ n i, 0 ≤ n → n < N → ¬ gh g n = -1 → i < pN (gh g n) → Z (ex g N βe n) → Z (ex g N βe (gp g n i))) → (∀ p, p ∈ ((a, b) :: P) → Z (ex g N βe p.1)) → ∀ p, p ∈ L → Z (ex g N βe p.1)) := by
        intro hss β2 L hL
        obtain ⟨L1, L2, L3, L4⟩ := hL
        refine ⟨(a, b) :: L, by rw [List.length_cons, L1], fun f => ?_, fun p hp => ?_, fun Z z1 z2 p hp => ?_⟩
        · have e : ((a, b) :: L).filter (badP g N βe) = L.filter (badP g N βe) := by
            rw [List.filter_cons, if_neg]
            intro w
            exact of_decide_eq_true w hss
          rw [e, List.map_cons, List.map_cons, List.sum_cons, List.sum_cons, L2 f, Nat.add_assoc]
        · rcases List.mem_cons.mp hp with w | w
          · rw [w]
            exact ⟨f7, po, ⟨a0, a1, b0, b1⟩, fun w => absurd hss w⟩
          · exact L3 p w
        · rcases List.mem_cons.mp hp with w | w
          · exact z2 p (by rw [w]; exact List.mem_cons_self)
          · exact L4 Z z1 (fun q hq => z2 q (List.mem_cons_of_mem _ hq)) p w
      have bnd : ∀ u t, svd g β u → svd g β t → gh g u = -1 → 0 ≤ u → u < N → 0 ≤ t → t < N → ¬ t = u → ¬ -1 - u ∈ ex g N β t → t ∈ PL → crE g N βe k ((u, t) :: β) P → ((u = sv g N β a ∧ t = sv g N β b) ∨ (u = sv g N β b ∧ t = sv g N β a)) → (∃ L : List (Int × Int), L.length = k + 1 ∧
        (∀ f, (L.map f).sum = (((a, b) :: P).map f).sum + ((L.filter (badP g N βe)).map (fun p => chS g f (sv g N βe p.1) (sv g N βe p.2))).sum) ∧
        (∀ p, p ∈ L → ex g N βe p.1 = ex g N βe p.2 ∧ Or' p ∧ (0 ≤ p.1 ∧ p.1 < N ∧ 0 ≤ p.2 ∧ p.2 < N) ∧ (¬ sv g N βe p.1 = sv g N βe p.2 → sv g N βe p.1 ∈ PL ∧ sv g N βe p.2 ∈ PL ∧ ¬ gh g (sv g N βe p.1) = -1 ∧ gh g (sv g N βe p.1) = gh g (sv g N βe p.2))) ∧
        (∀ Z : List Int → Prop, (∀ n i, 0 ≤ n → n < N → ¬ gh g n = -1 → i < pN (gh g n) → Z (ex g N βe n) → Z (ex g N βe (gp g n i))) → (∀ p, p ∈ ((a, b) :: P) → Z (ex g N βe p.1)) → ∀ p, p ∈ L → Z (ex g N βe p.1))) ∧
        (∀ v cols, (∀ p, Or' p → ex g N βe p.1 = v → ∃ c, c ∈ cols ∧ p.1 ∈ c ∧ p.2 ∈ c) → (∀ c, c ∈ cols → ∀ n, n ∈ c → 0 ≤ n ∧ n < N) → psC g N cols βe + nbC g N βe v βe ≤ psC g N cols β + nbC g N βe v β) ∧ ((∀ n, n ∈ PL → sv g N β n ∈ PL) → ∀ n, n ∈ PL → sv g N βe n ∈ PL) := by
        intro u t us ts hu u0 u1 t0 t1 tu hm tP hc hut
        obtain ⟨c1, c2, c3⟩ := bnd_fin hz hb ha us ts hu u0 u1 t0 t1 tu hm
        obtain ⟨-, -, -, d4⟩ := crE_fin hz k _ P hc c1 c2 hwP
        have ets : sv g N βe u = sv g N βe t := by
          have := d4 u u0 u1
          rw [c3 u u0 u1, sv_id hz hb ha u0 u1 us, if_pos rfl] at this
          exact this.symm
        have hss : sv g N βe a = sv g N βe b := by
          rw [← f4 a a0 a1, ← f4 b b0 b1]
          rcases hut with ⟨w1, w2⟩ | ⟨w1, w2⟩
          · rw [← w1, ← w2]; exact ets
          · rw [← w1, ← w2]; exact ets.symm
        obtain ⟨⟨L, hL⟩, hcol⟩ := ih ((u, t) :: β) P hc c1 c2 (sml_bind hz hb ha hs u0 u1 hu (us hu) t0 t1 ts tu tP c2) hwP (fun p hp => by
          obtain ⟨q1, q2, q3⟩ := hPP p hp
          obtain ⟨r0, r1, r2, r3⟩ := hwP p hp
          refine ⟨?_, ?_, q3⟩
          · rw [c3 _ r0 r1]; split
            · exact tP
            · exact q1
          · rw [c3 _ r2 r3]; split
            · exact tP
            · exact q2)
        refine ⟨same hss (β2 := β) L hL, fun v cols h1 h2 => ?_, fun hin => hcol.2 (fun n hn => by
          obtain ⟨n0, n1, -⟩ := hs n hn
          rw [c3 n n0 n1]
          split
          · exact tP
          · exact hin n hn)⟩
        have h3 := hcol.1 v cols h1 h2
        refine Nat.le_trans h3 ?_
        have le1 : ∀ c, c ∈ cols → dct (c.map (sv g N ((u, t) :: β))) ≤ dct (c.map (sv g N β)) := fun c hc2 => by
          rw [psC_bind c3 (h2 c hc2)]
          exact dct_map
        by_cases qv : ex g N βe u = v
        · have en : nbC g N βe v ((u, t) :: β) = nbC g N βe v β + 1 := by
            unfold nbC
            rw [List.filter_cons, if_pos (decide_eq_true qv), List.length_cons]
          have eva : ex g N βe a = v := by
            rw [← qv]
            have ea := i5 _ f5
            have eb := k5 _ f5
            rcases hut with ⟨w1, w2⟩ | ⟨w1, w2⟩
            · rw [w1, ea]
            · rw [w1, eb, f7]
          obtain ⟨c, hc1, hc2, hc3⟩ := h1 (a, b) po eva
          have := sm_lt (c := c) le1 hc1 (by
            rw [psC_bind c3 (h2 c hc1)]
            refine dct_mlt (a := sv g N β a) (b := sv g N β b) (fun w => ?_) ?_ (List.mem_map_of_mem hc2) (List.mem_map_of_mem hc3)
            · rcases hut with ⟨w1, w2⟩ | ⟨w1, w2⟩
              · exact tu (by rw [w1, w2, w])
              · exact tu (by rw [w1, w2, w])
            · rcases hut with ⟨w1, w2⟩ | ⟨w1, w2⟩
              · rw [← w1, ← w2, if_pos rfl, if_neg tu]
              · rw [← w1, ← w2, if_pos rfl, if_neg tu])
          rw [en]
          unfold psC
          omega
        · have en : nbC g N βe v ((u, t) :: β) = nbC g N βe v β := by
            unfold nbC
            rw [List.filter_cons, if_neg (fun w => qv (of_decide_eq_true w))]
          rw [en]
          have := sm_le le1
          unfold psC
          omega
      rcases h with ⟨e, h⟩ | ⟨e, gb, m, h⟩ | ⟨e, gb, ga, m, h⟩ | ⟨e, gb, ga, he, h⟩
      · obtain ⟨⟨L, hL⟩, hcol⟩ := ih β P h hb ha hs hwP hPP
        exact ⟨same (by rw [← f4 a a0 a1, ← f4 b b0 b1, e]) (β2 := β) L hL, hcol⟩
      · exact bnd _ _ k1 i1 gb k2 k3 i2 i3 e m pa h (Or.inr ⟨rfl, rfl⟩)
      · exact bnd _ _ i1 k1 ga i2 i3 k2 k3 (fun w => e w.symm) m pb h (Or.inl ⟨rfl, rfl⟩)
      · have ea : sv g N βe a = sv g N β a := by
          rw [← f4 a a0 a1]
          exact sv_id hz hbe hae i2 i3 (fun w => absurd w ga)
        have eb : sv g N βe b = sv g N β b := by
          rw [← f4 b b0 b1]
          exact sv_id hz hbe hae k2 k3 (fun w => absurd w gb)
        have va : ex g N βe (sv g N β a) = ex g N βe a := i5 _ f5
        have vb : ex g N βe (sv g N β b) = ex g N βe b := k5 _ f5
        obtain ⟨⟨L, L1, L2, L3, L4⟩, hcol⟩ := ih β _ h hb ha hs (inN_pud hz i2 i3 k2 k3 he hwP) (fun p hp => by
          rcases pud_mem.mp hp with ⟨q, hq, e2⟩ | w
          · rw [e2]
            refine ⟨(hs _ pa).2.2 q hq, (hs _ pb).2.2 q (by rw [← he]; exact hq), hOr _ _ q pa pb ga gb he (by rw [va, vb, f7]) hq⟩
          · exact hPP p w)
        refine ⟨⟨(a, b) :: L, by rw [List.length_cons, L1], fun f => ?_, fun p hp => ?_, fun Z z1 z2 p hp => ?_⟩, hcol⟩
        · have e3 : ((a, b) :: L).filter (badP g N βe) = (a, b) :: L.filter (badP g N βe) := by
            rw [List.filter_cons, if_pos]
            refine decide_eq_true ?_
            rw [ea, eb]; exact e
          have e4 : ((pud (fun i => (gp g (sv g N β a) i, gp g (sv g N β b) i)) 0 (pN (gh g (sv g N β a))) P).map f).sum = chS g f (sv g N β a) (sv g N β b) + (P.map f).sum := by
            unfold pud chS
            rw [List.map_append, List.sum_append, List.map_map]
            rfl
          rw [e3, List.map_cons, List.map_cons, List.map_cons, List.sum_cons, List.sum_cons, List.sum_cons, L2 f, e4]
          dsimp only
          rw [ea, eb]
          omega
        · rcases List.mem_cons.mp hp with w | w
          · rw [w]
            refine ⟨f7, po, ⟨a0, a1, b0, b1⟩, fun _ => ?_⟩
            dsimp only
            rw [ea, eb]
            exact ⟨pa, pb, ga, he⟩
          · exact L3 p w
        · rcases List.mem_cons.mp hp with w | w
          · exact z2 p (by rw [w]; exact List.mem_cons_self)
          · refine L4 Z z1 (fun q hq => ?_) p w
            rcases pud_mem.mp hq with ⟨j, hj, e2⟩ | w2
            · rw [e2]
              refine z1 _ j i2 i3 ga hj ?_
              rw [va]
              exact z2 (a, b) List.mem_cons_self
            · exact z2 q (List.mem_cons_of_mem _ w2)
end ZMp
