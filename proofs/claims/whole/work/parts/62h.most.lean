/-! How many steps: what a value costs; all together. -/
theorem sm_flat {α γ : Type} {F : α → List γ} {G : γ → Nat} : ∀ {l : List α}, ((l.flatMap F).map G).sum = (l.map (fun a => ((F a).map G).sum)).sum := by
  intro l
  induction l with
  | nil => rfl
  | cons a l ih => rw [List.flatMap_cons, List.map_append, List.sum_append, List.map_cons, List.sum_cons, ih]
theorem sm_pos {α : Type} {f : α → Nat} {a : α} {z : Nat} : ∀ {l : List α}, a ∈ l → z ≤ f a → z ≤ (l.map f).sum := by
  intro l
  induction l with
  | nil => intro h; cases h
  | cons b l ih =>
    intro h hz
    rw [List.map_cons, List.sum_cons]
    rcases List.mem_cons.mp h with w | w
    · rw [← w]; omega
    · have := ih w hz
      omega
theorem bl_app {n : Int} : ∀ {new β : List (Int × Int)}, ¬ bl (new ++ β) n = -1 → bl β n = -1 → ∃ t, (n, t) ∈ new := by
  intro new
  induction new with
  | nil => intro β h1 h2; exact absurd h2 h1
  | cons p new ih =>
    obtain ⟨u, t⟩ := p
    intro β h1 h2
    by_cases q : n = u
    · exact ⟨t, by rw [q]; exact List.mem_cons_self⟩
    · have h3 : ¬ bl (new ++ β) n = -1 := by
        have e : bl (((u, t) :: new) ++ β) n = bl (new ++ β) n := if_neg q
        rw [e] at h1
        exact h1
      obtain ⟨t', w⟩ := ih h3 h2
      exact ⟨t', List.mem_cons_of_mem _ w⟩
theorem crE_new {g : zH} {N : Int} {βe : List (Int × Int)} : ∀ (k : Nat) (β P : List (Int × Int)), crE g N βe k β P → ∃ new, βe = new ++ β := by
  intro k
  induction k with
  | zero => intro β P h; exact ⟨[], h.2.symm⟩
  | succ k ih =>
    intro β P h
    have cs : ∀ p, (∃ new, βe = new ++ (p :: β)) → ∃ new, βe = new ++ β := fun p ⟨new, e⟩ => ⟨new ++ [p], by rw [e, List.append_assoc]; rfl⟩
    cases P with
    | nil => exact False.elim h
    | cons p P =>
      obtain ⟨a, b⟩ := p
      rcases h with ⟨e, h⟩ | ⟨e, gb, m, h⟩ | ⟨e, gb, ga, m, h⟩ | ⟨e, gb, ga, he, h⟩
      · exact ih _ _ h
      · exact cs _ (ih _ _ h)
      · exact cs _ (ih _ _ h)
      · exact ih _ _ h
def colL (g : zH) (N : Int) (βe : List (Int × Int)) (PL : List Int) (p : List Int) (i : Nat) : List Int := (PL.filter (cnV g N βe p)).map (fun n => gp g n i)
def colS (g : zH) (N : Int) (βe : List (Int × Int)) (PL : List Int) (V : List (List Int)) (v : List Int) : List (List Int) := V.flatMap (fun p => (([0, 1, 2] : List Nat).filter (fun i => edg g N βe PL p i v)).map (fun i => colL g N βe PL p i))
/-- where a pair comes from -/
def orP (g : zH) (N : Int) (βe : List (Int × Int)) (PL : List Int) (x y : Int) (q : Int × Int) : Prop := q = (x, y) ∨ ∃ A B i, A ∈ PL ∧ B ∈ PL ∧ ¬ gh g A = -1 ∧ ¬ gh g B = -1 ∧ gh g A = gh g B ∧ ex g N βe A = ex g N βe B ∧ i < pN (gh g A) ∧ q = (gp g A i, gp g B i)
section ZMs
variable {g : zH} {N : Int} {β βe : List (Int × Int)} {PL : List Int} {L : List (Int × Int)} {p v : List Int} {n m x y : Int} {i : Nat} {V : List (List Int)}
theorem ps_cols {β' : List (Int × Int)} : psC g N (colS g N βe PL V v) β' = (V.map (fun p => (([0, 1, 2] : List Nat).map (fun i => if edg g N βe PL p i v = true then dct ((colL g N βe PL p i).map (sv g N β')) else 0)).sum)).sum := by
  unfold psC colS
  rw [sm_flat]
  refine sm_cg (fun p _ => ?_)
  rw [List.map_map, sm_fil]
  rfl
theorem ps_le (h : pOK g N β βe PL) (x0 : 0 ≤ x) (x1 : x < N) (y0 : 0 ≤ y) (y1 : y < N) (hf : ∀ f : Int → Nat, (PL.map f).sum = f (sv g N β x) + f (sv g N β y) + (PL.map (chP g N β f)).sum) (exy : ex g N βe x = ex g N βe y) (hV : V.Nodup) {β' : List (Int × Int)} : psC g N (colS g N βe PL V v) β' ≤ tCt g N βe PL v := by
  refine Nat.le_trans ?_ (Nat.le_trans (Nat.le_add_left _ _) (t_ge h x0 x1 y0 y1 hf exy hV))
  rw [ps_cols]
  refine sm_le (fun p _ => ?_)
  unfold eCt
  rw [← sm_mul]
  refine sm_le (fun i _ => ?_)
  by_cases q : edg g N βe PL p i v = true
  · rw [if_pos q, if_pos q]
    refine Nat.le_trans dct_le ?_
    unfold colL cCt
    rw [List.length_map, List.length_map]
    have : ∀ l : List Int, (l.filter (cnV g N βe p)).length = (l.map (fun n => if cnV g N βe p n = true then 1 else 0)).sum := by
      intro l
      induction l with
      | nil => rfl
      | cons a l ih =>
        rw [List.filter_cons, List.map_cons, List.sum_cons, ← ih]
        split
        · rw [List.length_cons]; omega
        · omega
    rw [this]
    exact Nat.le_refl _
  · rw [if_neg q, if_neg q]; exact Nat.le_refl _
theorem ps_ge : 2 * (V.map (fun p => hCt g N βe PL p v)).sum ≤ psC g N (colS g N βe PL V v) βe := by
  rw [ps_cols]
  have e : ∀ l : List (List Int), 2 * (l.map (fun p => hCt g N βe PL p v)).sum = (l.map (fun p => 2 * hCt g N βe PL p v)).sum := by
    intro l
    induction l with
    | nil => rfl
    | cons a l ih => rw [List.map_cons, List.map_cons, List.sum_cons, List.sum_cons, Nat.mul_add, ih]
  rw [e]
  refine sm_le (fun p _ => ?_)
  unfold hCt
  rw [Nat.mul_comm, ← sm_mul]
  refine sm_le (fun i _ => ?_)
  by_cases q : (edg g N βe PL p i v && ncs g N βe PL p i) = true
  · rw [if_pos q]
    rw [Bool.and_eq_true] at q
    rw [if_pos q.1]
    obtain ⟨n, hn, w⟩ := List.any_eq_true.mp q.2
    rw [Bool.and_eq_true] at w
    obtain ⟨m, hm, w2⟩ := List.any_eq_true.mp w.2
    rw [Bool.and_eq_true] at w2
    exact dct_2 (of_decide_eq_true w2.2) (List.mem_map_of_mem (List.mem_map.mpr ⟨n, List.mem_filter.mpr ⟨hn, w.1⟩, rfl⟩)) (List.mem_map_of_mem (List.mem_map.mpr ⟨m, List.mem_filter.mpr ⟨hm, w2.1⟩, rfl⟩))
  · rw [if_neg q]; exact Nat.zero_le _
theorem col_or (h : pOK g N β βe PL) (hV : ∀ n, n ∈ PL → ex g N βe n ∈ V) (hx : ¬ ex g N βe x = v) : (∀ q, orP g N βe PL x y q → ex g N βe q.1 = v → ∃ c, c ∈ colS g N βe PL V v ∧ q.1 ∈ c ∧ q.2 ∈ c) ∧ ∀ c, c ∈ colS g N βe PL V v → ∀ n, n ∈ c → 0 ≤ n ∧ n < N := by
  refine ⟨fun q hq hv => ?_, fun c hc n hn => ?_⟩
  · rcases hq with w | ⟨A, B, i, hA, hB, gA, gB, he, hex, hi, e⟩
    · rw [w] at hv
      exact absurd hv hx
    · rw [e] at hv ⊢
      have cA : cnV g N βe (ex g N βe A) A = true := cnV_iff.mpr ⟨gA, rfl⟩
      have cB : cnV g N βe (ex g N βe A) B = true := cnV_iff.mpr ⟨gB, hex.symm⟩
      have i3 := pN_PL h hA
      refine ⟨colL g N βe PL (ex g N βe A) i, List.mem_flatMap.mpr ⟨ex g N βe A, hV A hA, List.mem_map.mpr ⟨i, List.mem_filter.mpr ⟨?_, (edg_of h hA cA).mpr ⟨hi, hv⟩⟩, rfl⟩⟩, List.mem_map.mpr ⟨A, List.mem_filter.mpr ⟨hA, cA⟩, rfl⟩, List.mem_map.mpr ⟨B, List.mem_filter.mpr ⟨hB, cB⟩, rfl⟩⟩
      have : i = 0 ∨ i = 1 ∨ i = 2 := by omega
      rcases this with w | w | w
      · rw [w]; decide
      · rw [w]; decide
      · rw [w]; decide
  · obtain ⟨p, -, hp⟩ := List.mem_flatMap.mp hc
    obtain ⟨i, hi, e⟩ := List.mem_map.mp hp
    rw [← e] at hn
    obtain ⟨m, hm, e2⟩ := List.mem_map.mp hn
    obtain ⟨hm1, hm2⟩ := List.mem_filter.mp hm
    have he := (edg_of h hm1 hm2).mp (List.mem_filter.mp hi).2
    obtain ⟨m0, m1, -⟩ := h.2.2.2.1 m hm1
    have := (h.1 m m0 m1).2 i he.1
    rw [← e2]
    exact ⟨this.1, by omega⟩
/-- a place that stands for a thing in the end is one, or has been tied -/
theorem tied_in {new : List (Int × Int)} {A : Int} (h : pOK g N β βe PL) (hnew : βe = new ++ β) (hA : A ∈ PL) (cA : cnV g N βe v A = true) (hn : n ∈ PL) (hv : ex g N βe n = v) : ¬ gh g n = -1 ∨ ∃ t, (n, t) ∈ new.filter (fun p => decide (ex g N βe p.1 = v)) := by
  obtain ⟨hz, hb, ha, hs, hsv, hd, -⟩ := h
  obtain ⟨n0, n1, -⟩ := hs n hn
  obtain ⟨a0, a1, -⟩ := hs A hA
  obtain ⟨gA, eA⟩ := cnV_iff.mp cA
  by_cases q : gh g n = -1
  · refine Or.inr ?_
    by_cases q2 : bl βe n = -1
    · exfalso
      rw [ex_un hz hb ha n0 n1 q q2, ← eA, ex_con hz hb ha a0 a1 gA] at hv
      have h1 := (List.cons.inj hv).1
      have h2 := (hz A a0 a1).1
      omega
    · rw [hnew] at q2
      obtain ⟨t, ht⟩ := bl_app q2 (hd n hn q)
      exact ⟨t, List.mem_filter.mpr ⟨ht, decide_eq_true hv⟩⟩
  · exact Or.inl q
theorem v_cost {new : List (Int × Int)} (h : pOK g N β βe PL) (hnew : βe = new ++ β) (hL : lOK g N βe PL L x y) (x0 : 0 ≤ x) (x1 : x < N) (y0 : 0 ≤ y) (y1 : y < N) (hf : ∀ f : Int → Nat, (PL.map f).sum = f (sv g N β x) + f (sv g N β y) + (PL.map (chP g N β f)).sum) (exy : ex g N βe x = ex g N βe y) (hVn : V.Nodup) (hV : ∀ n, n ∈ PL → ex g N βe n ∈ V) (hx : ¬ ex g N βe x = v)
    (hps : ∀ v cols, (∀ q, orP g N βe PL x y q → ex g N βe q.1 = v → ∃ c, c ∈ cols ∧ q.1 ∈ c ∧ q.2 ∈ c) → (∀ c, c ∈ cols → ∀ n, n ∈ c → 0 ≤ n ∧ n < N) → psC g N cols βe + nbC g N βe v βe ≤ psC g N cols β + nbC g N βe v β)
    {G : Nat} (hG : G ≤ (V.map (fun p => hCt g N βe PL p v)).sum) (hG2 : 2 ≤ G) {q : Int × Int} (hq : q ∈ L) (hqb : badP g N βe q = true) (hqv : ex g N βe q.1 = v) : 2 * G + 4 ≤ tCt g N βe PL v + cCt g N βe PL v := by
  obtain ⟨hA, hB, cA, cB, hAB⟩ := bad_cn h hL hq hqb
  rw [hqv] at cA cB
  generalize sv g N βe q.1 = A at hA cA hAB
  generalize sv g N βe q.2 = B at hB cB hAB
  obtain ⟨o1, o2⟩ := col_or (y := y) (v := v) h hV hx
  have hp := hps v _ o1 o2
  have hlo := ps_le (v := v) h x0 x1 y0 y1 hf exy hVn (β' := β)
  have hhi := ps_ge (g := g) (N := N) (βe := βe) (PL := PL) (V := V) (v := v)
  have hnb : nbC g N βe v βe = (new.filter (fun p => decide (ex g N βe p.1 = v))).length + nbC g N βe v β := by
    unfold nbC
    conv => lhs; arg 1; arg 2; rw [hnew]
    rw [List.filter_append, List.length_append]
  have tie := fun n (hn : n ∈ PL) hv => tied_in (n := n) h hnew hA cA hn hv
  -- how often one is a place
  have one : ∀ z, z ∈ PL → 1 ≤ (PL.map (fun n => if n = z then 1 else 0)).sum := fun z hz => sm_pos hz (by rw [if_pos rfl]; exact Nat.le_refl _)
  have c2 : (PL.map (fun n => if n = A then 1 else 0)).sum + (PL.map (fun n => if n = B then 1 else 0)).sum ≤ cCt g N βe PL v := by
    rw [← sm_add]
    refine sm_le (fun n _ => ?_)
    by_cases qa : n = A
    · rw [if_pos qa, if_neg (fun w => hAB (by rw [← qa, w])), qa, if_pos cA]
      exact Nat.le_refl _
    · rw [if_neg qa]
      by_cases qb : n = B
      · rw [if_pos qb, qb, if_pos cB]; exact Nat.le_refl _
      · rw [if_neg qb]; exact Nat.zero_le _
  have oA := one A hA
  have oB := one B hB
  generalize hd : new.filter (fun p => decide (ex g N βe p.1 = v)) = D at hnb tie
  cases D with
  | nil =>
    have : tCt g N βe PL v = cCt g N βe PL v := by
      refine sm_cg (fun n hn => ?_)
      by_cases qv : ex g N βe n = v
      · have hc : cnV g N βe v n = true := by
          rcases tie n hn qv with w | ⟨t, w⟩
          · exact cnV_iff.mpr ⟨w, qv⟩
          · cases w
        rw [if_pos qv, if_pos hc]
      · rw [if_neg qv, if_neg (fun w => qv (cnV_iff.mp w).2)]
    have hl : ([] : List (Int × Int)).length = 0 := rfl
    omega
  | cons d D =>
    cases D with
    | cons d2 D =>
      rw [List.length_cons, List.length_cons] at hnb
      omega
    | nil =>
      have hl : [d].length = 1 := rfl
      rw [hl] at hnb
      by_cases c3 : 3 ≤ cCt g N βe PL v
      · omega
      · exfalso
        have only : ∀ n, n ∈ PL → cnV g N βe v n = true → n = A ∨ n = B := fun z hz cz => Classical.byContradiction (fun w => by
          have wA : ¬ z = A := fun e => w (Or.inl e)
          have wB : ¬ z = B := fun e => w (Or.inr e)
          have oz := one z hz
          have : (PL.map (fun n => if n = A then 1 else 0)).sum + (PL.map (fun n => if n = B then 1 else 0)).sum + (PL.map (fun n => if n = z then 1 else 0)).sum ≤ cCt g N βe PL v := by
            rw [← sm_add, ← sm_add]
            refine sm_le (fun n _ => ?_)
            by_cases qa : n = A
            · rw [if_pos qa, if_neg (fun e => hAB (by rw [← qa, e])), if_neg (fun e => wA (by rw [← qa, e])), qa, if_pos cA]
              exact Nat.le_refl _
            · rw [if_neg qa]
              by_cases qb : n = B
              · rw [if_pos qb, if_neg (fun e => wB (by rw [← qb, e])), qb, if_pos cB]; exact Nat.le_refl _
              · rw [if_neg qb]
                by_cases qz : n = z
                · rw [if_pos qz, qz, if_pos cz]; exact Nat.le_refl _
                · rw [if_neg qz]; exact Nat.zero_le _
          omega)
        -- one that the tied one does not come to
        have pick : ∃ C, C ∈ PL ∧ cnV g N βe v C = true ∧ ¬ sv g N βe d.1 = C ∧ (C = A ∨ C = B) ∧ (PL.map (fun n => if n = C then 1 else 0)).sum ≤ 1 := by
          by_cases qd : sv g N βe d.1 = A
          · exact ⟨B, hB, cB, fun w => hAB (qd.symm.trans w), Or.inr rfl, by omega⟩
          · exact ⟨A, hA, cA, qd, Or.inl rfl, by omega⟩
        obtain ⟨C, hC, cC2, hdC, hCo, hC1⟩ := pick
        obtain ⟨hz, hb, ha, hs, hsv, hsd, hin⟩ := h
        have pok : pOK g N β βe PL := ⟨hz, hb, ha, hs, hsv, hsd, hin⟩
        obtain ⟨C0, C1, -⟩ := hs C hC
        have hup : (PL.map (fun n => if sv g N βe n = C then 1 else 0)).sum ≤ 1 := by
          refine Nat.le_trans (sm_le (fun n hn => ?_)) hC1
          by_cases qs : sv g N βe n = C
          · obtain ⟨n0, n1, -⟩ := hs n hn
            obtain ⟨-, -, -, i4, -⟩ := sv_all hz hb ha n n0 n1
            have hv : ex g N βe n = v := by rw [← i4, qs]; exact (cnV_iff.mp cC2).2
            rcases tie n hn hv with w | ⟨t, w⟩
            · have : n = C := by rw [← qs]; exact (sv_id hz hb ha n0 n1 (fun e => absurd e w)).symm
              rw [if_pos qs, if_pos this]; exact Nat.le_refl _
            · have e : (n, t) = d := List.mem_singleton.mp w
              rw [← e] at hdC
              exact absurd qs hdC
          · rw [if_neg qs]; exact Nat.zero_le _
        have hlow : (V.map (fun p => hCt g N βe PL p v)).sum ≤ (PL.map (fun n => if sv g N βe n = C then 1 else 0)).sum := by
          rw [hf]
          refine Nat.le_trans ?_ (Nat.le_add_left _ _)
          refine Nat.le_trans (sm_le (fun p _ => ?_)) (grp_le (κ := fun n => ex g N βe n) (G := chP g N β (fun n => if sv g N βe n = C then 1 else 0)) hVn (l := PL))
          -- for one value
          have e3 : (PL.map (fun n => if ex g N βe n = p then chP g N β (fun n => if sv g N βe n = C then 1 else 0) n else 0)).sum = (PL.map (fun n => (if ex g N βe n = p ∧ 0 < pN (gh g n) ∧ sv g N βe (gp g n 0) = C then 1 else 0) + ((if ex g N βe n = p ∧ 1 < pN (gh g n) ∧ sv g N βe (gp g n 1) = C then 1 else 0) + (if ex g N βe n = p ∧ 2 < pN (gh g n) ∧ sv g N βe (gp g n 2) = C then 1 else 0)))).sum := by
            refine sm_cg (fun n hn => ?_)
            obtain ⟨n0, n1, -⟩ := hs n hn
            by_cases qp : ex g N βe n = p
            · rw [if_pos qp]
              unfold chP
              rw [rg3 (pN_PL pok hn)]
              have one3 : ∀ i, (if i < pN (gh g n) then (fun n => if sv g N βe n = C then 1 else 0) (sv g N β (gp g n i)) else 0) = if ex g N βe n = p ∧ i < pN (gh g n) ∧ sv g N βe (gp g n i) = C then 1 else 0 := fun i => by
                by_cases qi : i < pN (gh g n)
                · rw [if_pos qi]
                  have c := (hz n n0 n1).2 i qi
                  show (if sv g N βe (sv g N β (gp g n i)) = C then 1 else 0) = _
                  rw [(hsv _ c.1 (by omega)).1]
                  by_cases qc : sv g N βe (gp g n i) = C
                  · rw [if_pos qc, if_pos ⟨qp, qi, qc⟩]
                  · rw [if_neg qc, if_neg (fun w => qc w.2.2)]
                · rw [if_neg qi, if_neg (fun w => qi w.2.1)]
              rw [← one3 0, ← one3 1, ← one3 2]
              rfl
            · rw [if_neg qp, if_neg (fun w => qp w.1), if_neg (fun w => qp w.1), if_neg (fun w => qp w.1)]
          rw [e3, sm_add, sm_add]
          have each : ∀ i, (if (edg g N βe PL p i v && ncs g N βe PL p i) = true then 1 else 0) ≤ (PL.map (fun n => if ex g N βe n = p ∧ i < pN (gh g n) ∧ sv g N βe (gp g n i) = C then 1 else 0)).sum := fun i => by
            by_cases qe : (edg g N βe PL p i v && ncs g N βe PL p i) = true
            · rw [if_pos qe]
              rw [Bool.and_eq_true] at qe
              obtain ⟨n, hn, w⟩ := List.any_eq_true.mp qe.2
              rw [Bool.and_eq_true] at w
              obtain ⟨m, hm, w2⟩ := List.any_eq_true.mp w.2
              rw [Bool.and_eq_true] at w2
              have hne := of_decide_eq_true w2.2
              have isAB : ∀ n, n ∈ PL → cnV g N βe p n = true → sv g N βe (gp g n i) = A ∨ sv g N βe (gp g n i) = B := fun n hn cn => by
                obtain ⟨d1, d2⟩ := (edg_of pok hn cn).mp qe.1
                obtain ⟨n0, n1, n2⟩ := hs n hn
                have c := (hz n n0 n1).2 i d1
                have d3 := n2 i d1
                have d4 := hin _ d3
                rw [(hsv _ c.1 (by omega)).1] at d4
                refine only _ d4 (cnV_iff.mpr ?_)
                obtain ⟨i1, i2, i3, i4, -⟩ := sv_all hz hb ha (gp g n i) c.1 (by omega)
                have e5 : ex g N βe (sv g N βe (gp g n i)) = v := i4.trans d2
                refine ⟨fun gq => ?_, e5⟩
                rw [ex_un hz hb ha i2 i3 gq (i1 gq)] at e5
                obtain ⟨gA, eA⟩ := cnV_iff.mp cA
                obtain ⟨a0, a1, -⟩ := hs A hA
                rw [← eA, ex_con hz hb ha a0 a1 gA] at e5
                have h1 := (List.cons.inj e5).1
                have h2 := (hz A a0 a1).1
                omega
              have fin : ∀ n, n ∈ PL → cnV g N βe p n = true → sv g N βe (gp g n i) = C → 1 ≤ (PL.map (fun n => if ex g N βe n = p ∧ i < pN (gh g n) ∧ sv g N βe (gp g n i) = C then 1 else 0)).sum := fun n hn cn hc => sm_pos hn (by
                rw [if_pos ⟨(cnV_iff.mp cn).2, ((edg_of pok hn cn).mp qe.1).1, hc⟩]
                exact Nat.le_refl _)
              have iA := isAB n hn w.1
              have iB := isAB m hm w2.1
              by_cases f1 : sv g N βe (gp g n i) = C
              · exact fin n hn w.1 f1
              · refine fin m hm w2.1 ?_
                rcases hCo with e | e
                · rw [e] at f1 ⊢
                  have f2 := iA.resolve_left f1
                  exact iB.resolve_right (fun e2 => hne (f2.trans e2.symm))
                · rw [e] at f1 ⊢
                  have f2 := iA.resolve_right f1
                  exact iB.resolve_left (fun e2 => hne (f2.trans e2.symm))
            · rw [if_neg qe]; exact Nat.zero_le _
          have e0 := each 0
          have e1 := each 1
          have e2 := each 2
          show (if (edg g N βe PL p 0 v && ncs g N βe PL p 0) = true then 1 else 0) + ((if (edg g N βe PL p 1 v && ncs g N βe PL p 1) = true then 1 else 0) + ((if (edg g N βe PL p 2 v && ncs g N βe PL p 2) = true then 1 else 0) + 0)) ≤ _
          omega
        omega
end ZMs
