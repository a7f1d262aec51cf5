/-! How many steps: what is counted for a value. -/
def cnV (g : zH) (N : Int) (βe : List (Int × Int)) (v : List Int) (n : Int) : Bool := decide (¬ gh g n = -1 ∧ ex g N βe n = v)
def edg (g : zH) (N : Int) (βe : List (Int × Int)) (PL : List Int) (p : List Int) (i : Nat) (v : List Int) : Bool := PL.any (fun n => cnV g N βe p n && decide (i < pN (gh g n) ∧ ex g N βe (gp g n i) = v))
def ncs (g : zH) (N : Int) (βe : List (Int × Int)) (PL : List Int) (p : List Int) (i : Nat) : Bool := PL.any (fun n => cnV g N βe p n && PL.any (fun m => cnV g N βe p m && decide (¬ sv g N βe (gp g n i) = sv g N βe (gp g m i))))
def tCt (g : zH) (N : Int) (βe : List (Int × Int)) (PL : List Int) (v : List Int) : Nat := (PL.map (fun n => if ex g N βe n = v then 1 else 0)).sum
def cCt (g : zH) (N : Int) (βe : List (Int × Int)) (PL : List Int) (v : List Int) : Nat := (PL.map (fun n => if cnV g N βe v n = true then 1 else 0)).sum
def nCt (g : zH) (N : Int) (βe : List (Int × Int)) (L : List (Int × Int)) (v : List Int) : Nat := (L.map (fun q => if ex g N βe q.1 = v then 1 else 0)).sum
def mCt (g : zH) (N : Int) (βe : List (Int × Int)) (L : List (Int × Int)) (v : List Int) : Nat := (L.map (fun q => if (badP g N βe q && decide (ex g N βe q.1 = v)) = true then 1 else 0)).sum
def eCt (g : zH) (N : Int) (βe : List (Int × Int)) (PL : List Int) (p v : List Int) : Nat := (([0, 1, 2] : List Nat).map (fun i => if edg g N βe PL p i v = true then 1 else 0)).sum
def hCt (g : zH) (N : Int) (βe : List (Int × Int)) (PL : List Int) (p v : List Int) : Nat := (([0, 1, 2] : List Nat).map (fun i => if (edg g N βe PL p i v && ncs g N βe PL p i) = true then 1 else 0)).sum
def chv (g : zH) (N : Int) (βe : List (Int × Int)) (v : List Int) (n : Int) : Nat := (([0, 1, 2] : List Nat).map (fun i => if i < pN (gh g n) then (if ex g N βe (gp g n i) = v then 1 else 0) else 0)).sum
/-- places, and the end of a run on them -/
def pOK (g : zH) (N : Int) (β βe : List (Int × Int)) (PL : List Int) : Prop := zok g N ∧ bok g N βe ∧ acy g N βe ∧ sml g N β PL ∧ (∀ n, 0 ≤ n → n < N → sv g N βe (sv g N β n) = sv g N βe n ∧ ex g N βe (sv g N β n) = ex g N βe n) ∧ (∀ n, n ∈ PL → svd g β n) ∧ ∀ n, n ∈ PL → sv g N βe n ∈ PL
section ZMr
variable {g : zH} {N : Int} {β βe : List (Int × Int)} {PL : List Int} {L : List (Int × Int)} {p v : List Int} {n m x y : Int} {i : Nat}
theorem cnV_iff : cnV g N βe v n = true ↔ ¬ gh g n = -1 ∧ ex g N βe n = v := ⟨fun h => of_decide_eq_true h, fun h => decide_eq_true h⟩
theorem i3_le {f : Nat → Nat} (h : ∀ i, f i ≤ 1) : (([0, 1, 2] : List Nat).map f).sum ≤ 3 := by
  have h0 := h 0
  have h1 := h 1
  have h2 := h 2
  show f 0 + (f 1 + (f 2 + 0)) ≤ 3
  omega
theorem ite_le1 {c : Prop} [Decidable c] : (if c then 1 else 0) ≤ 1 := by split <;> omega
theorem eCt_3 (p v : List Int) : eCt g N βe PL p v ≤ 3 := i3_le (fun _ => ite_le1)
theorem hCt_3 (p v : List Int) : hCt g N βe PL p v ≤ 3 := i3_le (fun _ => ite_le1)
theorem hCt_e : hCt g N βe PL p v ≤ eCt g N βe PL p v := sm_le (fun i _ => by
  by_cases q : edg g N βe PL p i v = true
  · rw [if_pos q]; exact ite_le1
  · rw [if_neg q, if_neg (fun w => q (by rw [Bool.and_eq_true] at w; exact w.1))]
    exact Nat.le_refl _)
theorem cn_same (h : pOK g N β βe PL) (hn : n ∈ PL) (hm : m ∈ PL) (h1 : cnV g N βe p n = true) (h2 : cnV g N βe p m = true) : gh g n = gh g m ∧ ∀ i, i < pN (gh g n) → ex g N βe (gp g n i) = ex g N βe (gp g m i) := by
  obtain ⟨hz, hb, ha, hs, -, -⟩ := h
  obtain ⟨n0, n1, -⟩ := hs n hn
  obtain ⟨m0, m1, -⟩ := hs m hm
  obtain ⟨a1, a2⟩ := cnV_iff.mp h1
  obtain ⟨b1, b2⟩ := cnV_iff.mp h2
  have e : ex g N βe n = ex g N βe m := a2.trans b2.symm
  have eh : gh g n = gh g m := by
    have e' := e
    rw [ex_con hz hb ha n0 n1 a1, ex_con hz hb ha m0 m1 b1] at e'
    exact (List.cons.inj e').1
  exact ⟨eh, (con_dec hz (ex_sol hz hb ha) n0 n1 m0 m1 a1 eh).mp e⟩
theorem edg_of (h : pOK g N β βe PL) (hn : n ∈ PL) (h1 : cnV g N βe p n = true) : edg g N βe PL p i v = true ↔ i < pN (gh g n) ∧ ex g N βe (gp g n i) = v := by
  constructor
  · intro w
    obtain ⟨m, hm, w2⟩ := List.any_eq_true.mp w
    rw [Bool.and_eq_true] at w2
    obtain ⟨c1, c2⟩ := w2
    obtain ⟨c3, c4⟩ := of_decide_eq_true c2
    obtain ⟨d1, d2⟩ := cn_same h hn hm h1 c1
    have hi : i < pN (gh g n) := by rw [d1]; exact c3
    exact ⟨hi, (d2 i hi).trans c4⟩
  · intro w
    refine List.any_eq_true.mpr ⟨n, hn, ?_⟩
    rw [Bool.and_eq_true]
    exact ⟨h1, decide_eq_true w⟩
theorem chv_e (h : pOK g N β βe PL) (hn : n ∈ PL) (h1 : cnV g N βe p n = true) : chv g N βe v n = eCt g N βe PL p v := by
  refine sm_cg (fun i _ => ?_)
  by_cases q : i < pN (gh g n)
  · by_cases q2 : ex g N βe (gp g n i) = v
    · rw [if_pos q, if_pos q2, if_pos ((edg_of h hn h1).mpr ⟨q, q2⟩)]
    · rw [if_pos q, if_neg q2, if_neg (fun w => q2 ((edg_of h hn h1).mp w).2)]
  · rw [if_neg q, if_neg (fun w => q ((edg_of h hn h1).mp w).1)]
theorem pN_PL (h : pOK g N β βe PL) (hn : n ∈ PL) : pN (gh g n) ≤ 3 := by
  obtain ⟨hz, -, -, hs, -⟩ := h
  obtain ⟨n0, n1, -⟩ := hs n hn
  exact pN_3 hz n0 n1
theorem chP_v (h : pOK g N β βe PL) (hn : n ∈ PL) : chP g N β (fun n => if ex g N βe n = v then 1 else 0) n = chv g N βe v n := by
  unfold chP chv
  rw [rg3 (pN_PL h hn)]
  refine sm_cg (fun i _ => ?_)
  by_cases q : i < pN (gh g n)
  · rw [if_pos q, if_pos q]
    obtain ⟨hz, -, -, hs, hsv, -⟩ := h
    obtain ⟨n0, n1, -⟩ := hs n hn
    have c := (hz n n0 n1).2 i q
    show (if ex g N βe (sv g N β (gp g n i)) = v then 1 else 0) = _
    rw [(hsv _ c.1 (by omega)).2]
  · rw [if_neg q, if_neg q]
/-- places of a value: the roots', and those of parts -/
theorem t_ge (h : pOK g N β βe PL) (x0 : 0 ≤ x) (x1 : x < N) (y0 : 0 ≤ y) (y1 : y < N) (hf : ∀ f : Int → Nat, (PL.map f).sum = f (sv g N β x) + f (sv g N β y) + (PL.map (chP g N β f)).sum) (exy : ex g N βe x = ex g N βe y) {R : List (List Int)} (hR : R.Nodup) : (if ex g N βe x = v then 2 else 0) + (R.map (fun p => eCt g N βe PL p v * cCt g N βe PL p)).sum ≤ tCt g N βe PL v := by
  have e := hf (fun n => if ex g N βe n = v then 1 else 0)
  have hsv := h.2.2.2.2.1
  rw [(hsv x x0 x1).2, (hsv y y0 y1).2, ← exy, sm_cg (fun n hn => chP_v h hn)] at e
  unfold tCt
  rw [e]
  have h1 : (R.map (fun p => eCt g N βe PL p v * cCt g N βe PL p)).sum ≤ (R.map (fun p => (PL.map (fun n => if ex g N βe n = p then chv g N βe v n else 0)).sum)).sum := by
    refine sm_le (fun p _ => ?_)
    unfold cCt
    rw [Nat.mul_comm, ← sm_mul]
    refine sm_le (fun n hn => ?_)
    by_cases q : cnV g N βe p n = true
    · rw [if_pos q, if_pos (cnV_iff.mp q).2, chv_e h hn q]
      exact Nat.le_refl _
    · rw [if_neg q]; exact Nat.zero_le _
  have h2 := grp_le (κ := fun n => ex g N βe n) (G := chv g N βe v) hR (l := PL)
  have e9 : (PL.map (fun n => chv g N βe v n)).sum = (PL.map (chv g N βe v)).sum := rfl
  by_cases q : ex g N βe x = v
  · rw [if_pos q, if_pos q]; omega
  · rw [if_neg q, if_neg q]; omega
/-- what a run is known to visit -/
def lOK (g : zH) (N : Int) (βe : List (Int × Int)) (PL : List Int) (L : List (Int × Int)) (x y : Int) : Prop :=
  (∀ f, (L.map f).sum = f (x, y) + ((L.filter (badP g N βe)).map (fun p => chS g f (sv g N βe p.1) (sv g N βe p.2))).sum) ∧
  (∀ q, q ∈ L → ex g N βe q.1 = ex g N βe q.2 ∧ (0 ≤ q.1 ∧ q.1 < N ∧ 0 ≤ q.2 ∧ q.2 < N) ∧ (¬ sv g N βe q.1 = sv g N βe q.2 → sv g N βe q.1 ∈ PL ∧ sv g N βe q.2 ∈ PL ∧ ¬ gh g (sv g N βe q.1) = -1 ∧ gh g (sv g N βe q.1) = gh g (sv g N βe q.2)))
theorem bad_cn (h : pOK g N β βe PL) (hL : lOK g N βe PL L x y) {q : Int × Int} (hq : q ∈ L) (hb : badP g N βe q = true) : sv g N βe q.1 ∈ PL ∧ sv g N βe q.2 ∈ PL ∧ cnV g N βe (ex g N βe q.1) (sv g N βe q.1) = true ∧ cnV g N βe (ex g N βe q.1) (sv g N βe q.2) = true ∧ ¬ sv g N βe q.1 = sv g N βe q.2 := by
  have hne : ¬ sv g N βe q.1 = sv g N βe q.2 := of_decide_eq_true hb
  obtain ⟨e1, ⟨a0, a1, b0, b1⟩, e2⟩ := hL.2 q hq
  obtain ⟨c1, c2, c3, c4⟩ := e2 hne
  obtain ⟨hz, hb', ha, -⟩ := h
  obtain ⟨-, -, -, i4, -⟩ := sv_all hz hb' ha q.1 a0 a1
  obtain ⟨-, -, -, k4, -⟩ := sv_all hz hb' ha q.2 b0 b1
  exact ⟨c1, c2, cnV_iff.mpr ⟨c3, i4⟩, cnV_iff.mpr ⟨by rw [← c4]; exact c3, k4.trans e1.symm⟩, hne⟩
theorem n_le (h : pOK g N β βe PL) (hL : lOK g N βe PL L x y) {R : List (List Int)} (hR : ∀ q, q ∈ L → badP g N βe q = true → ¬ eCt g N βe PL (ex g N βe q.1) v = 0 → ex g N βe q.1 ∈ R) : nCt g N βe L v ≤ (if ex g N βe x = v then 1 else 0) + (R.map (fun p => mCt g N βe L p * eCt g N βe PL p v)).sum := by
  have e := hL.1 (fun q => if ex g N βe q.1 = v then 1 else 0)
  have e2 : ((L.filter (badP g N βe)).map (fun p => chS g (fun q => if ex g N βe q.1 = v then 1 else 0) (sv g N βe p.1) (sv g N βe p.2))).sum = (L.map (fun q => if badP g N βe q = true then eCt g N βe PL (ex g N βe q.1) v else 0)).sum := by
    rw [sm_fil]
    refine sm_cg (fun q hq => ?_)
    by_cases qb : badP g N βe q = true
    · rw [if_pos qb, if_pos qb]
      obtain ⟨c1, c2, c3, c4, c5⟩ := bad_cn h hL hq qb
      rw [← chv_e h c1 c3]
      unfold chS chv
      rw [rg3 (pN_PL h c1)]
    · rw [if_neg qb, if_neg qb]
  rw [e2] at e
  unfold nCt
  rw [e]
  refine Nat.add_le_add_left ?_ _
  refine Nat.le_trans (grp_ge (κ := fun q : Int × Int => ex g N βe q.1) (R := R) (fun q hq hne => ?_)) (sm_le (fun p _ => ?_))
  · by_cases qb : badP g N βe q = true
    · rw [if_pos qb] at hne
      exact hR q hq qb hne
    · rw [if_neg qb] at hne
      exact absurd rfl hne
  · unfold mCt
    rw [← sm_mul]
    refine sm_le (fun q _ => ?_)
    by_cases q1 : ex g N βe q.1 = p
    · by_cases q2 : badP g N βe q = true
      · rw [if_pos q1, if_pos q2, if_pos (by rw [Bool.and_eq_true]; exact ⟨q2, decide_eq_true q1⟩), q1]
        exact Nat.le_refl _
      · rw [if_pos q1, if_neg q2]; exact Nat.zero_le _
    · rw [if_neg q1]; exact Nat.zero_le _
theorem m_le (h : pOK g N β βe PL) (hL : lOK g N βe PL L x y) (hx : ¬ ex g N βe x = v) {R : List (List Int)} (hR : ∀ q, q ∈ L → badP g N βe q = true → ¬ eCt g N βe PL (ex g N βe q.1) v = 0 → ex g N βe q.1 ∈ R) : mCt g N βe L v ≤ (R.map (fun p => mCt g N βe L p * hCt g N βe PL p v)).sum := by
  have e := hL.1 (fun q => if (badP g N βe q && decide (ex g N βe q.1 = v)) = true then 1 else 0)
  have e2 : ((L.filter (badP g N βe)).map (fun p => chS g (fun q => if (badP g N βe q && decide (ex g N βe q.1 = v)) = true then 1 else 0) (sv g N βe p.1) (sv g N βe p.2))).sum ≤ (L.map (fun q => if badP g N βe q = true then hCt g N βe PL (ex g N βe q.1) v else 0)).sum := by
    rw [sm_fil]
    refine sm_le (fun q hq => ?_)
    by_cases qb : badP g N βe q = true
    · rw [if_pos qb, if_pos qb]
      obtain ⟨c1, c2, c3, c4, c5⟩ := bad_cn h hL hq qb
      unfold chS hCt
      rw [rg3 (pN_PL h c1)]
      refine sm_le (fun i _ => ?_)
      by_cases qi : i < pN (gh g (sv g N βe q.1))
      · rw [if_pos qi]
        by_cases qv : (badP g N βe (gp g (sv g N βe q.1) i, gp g (sv g N βe q.2) i) && decide (ex g N βe (gp g (sv g N βe q.1) i) = v)) = true
        · have qv2 := qv
          rw [Bool.and_eq_true] at qv2
          have d1 := of_decide_eq_true qv2.1
          have d2 := of_decide_eq_true qv2.2
          have d3 : (edg g N βe PL (ex g N βe q.1) i v && ncs g N βe PL (ex g N βe q.1) i) = true := by
            rw [Bool.and_eq_true]
            refine ⟨(edg_of h c1 c3).mpr ⟨qi, d2⟩, List.any_eq_true.mpr ⟨_, c1, ?_⟩⟩
            rw [Bool.and_eq_true]
            refine ⟨c3, List.any_eq_true.mpr ⟨_, c2, ?_⟩⟩
            rw [Bool.and_eq_true]
            exact ⟨c4, decide_eq_true d1⟩
          rw [if_pos d3]
          exact ite_le1
        · show (if (badP g N βe (gp g (sv g N βe q.1) i, gp g (sv g N βe q.2) i) && decide (ex g N βe (gp g (sv g N βe q.1) i) = v)) = true then 1 else 0) ≤ _
          rw [if_neg qv]; exact Nat.zero_le _
      · rw [if_neg qi]; exact Nat.zero_le _
    · rw [if_neg qb, if_neg qb]; exact Nat.le_refl _
  have e3 : (if (badP g N βe (x, y) && decide (ex g N βe x = v)) = true then 1 else 0) = 0 := if_neg (fun w => hx (by rw [Bool.and_eq_true] at w; exact of_decide_eq_true w.2))
  dsimp only at e
  rw [e3] at e
  unfold mCt
  rw [e, Nat.zero_add]
  refine Nat.le_trans e2 (Nat.le_trans (grp_ge (κ := fun q : Int × Int => ex g N βe q.1) (R := R) (fun q hq hne => ?_)) (sm_le (fun p _ => ?_)))
  · by_cases qb : badP g N βe q = true
    · rw [if_pos qb] at hne
      refine hR q hq qb (fun w => hne ?_)
      have := hCt_e (g := g) (N := N) (βe := βe) (PL := PL) (p := ex g N βe q.1) (v := v)
      omega
    · rw [if_neg qb] at hne
      exact absurd rfl hne
  · rw [← sm_mul]
    refine sm_le (fun q _ => ?_)
    by_cases q1 : ex g N βe q.1 = p
    · by_cases q2 : badP g N βe q = true
      · rw [if_pos q1, if_pos q2, if_pos (by rw [Bool.and_eq_true]; exact ⟨q2, decide_eq_true q1⟩), q1]
        exact Nat.le_refl _
      · rw [if_pos q1, if_neg q2]; exact Nat.zero_le _
    · rw [if_neg q1]; exact Nat.zero_le _
theorem m_n : mCt g N βe L v ≤ nCt g N βe L v := sm_le (fun q _ => by
  by_cases q1 : ex g N βe q.1 = v
  · rw [if_pos q1]; exact ite_le1
  · rw [if_neg q1, if_neg (fun w => q1 (by rw [Bool.and_eq_true] at w; exact of_decide_eq_true w.2))]
    exact Nat.le_refl _)
theorem c_t : cCt g N βe PL v ≤ tCt g N βe PL v := sm_le (fun n _ => by
  by_cases q : cnV g N βe v n = true
  · rw [if_pos q, if_pos (cnV_iff.mp q).2]; exact Nat.le_refl _
  · rw [if_neg q]; exact Nat.zero_le _)
theorem w_Am {t c M f : List Int → Nat} : ∀ {R : List (List Int)}, wAm (R.map (fun p => (M p, f p, c p, t p))) = (R.map (fun p => M p * f p)).sum := by
  intro R
  induction R with
  | nil => rfl
  | cons v R ih =>
    show wAm (R.map _) + M v * f v = (M v * f v :: R.map _).sum
    rw [ih, List.sum_cons, Nat.add_comm]
theorem w_Sm {t c M f : List Int → Nat} : ∀ {R : List (List Int)}, wSm (R.map (fun p => (M p, f p, c p, t p))) ≤ (R.map (fun p => f p * c p)).sum := by
  intro R
  induction R with
  | nil => exact Nat.le_refl _
  | cons v R ih =>
    show wSm (R.map _) + (if M v = 0 then 0 else f v * c v) ≤ (f v * c v :: R.map _).sum
    rw [List.sum_cons]
    split <;> omega
theorem w_Gm {t c M f : List Int → Nat} : ∀ {R : List (List Int)}, wG (R.map (fun p => (M p, f p, c p, t p))) ≤ (R.map f).sum := by
  intro R
  induction R with
  | nil => exact Nat.le_refl _
  | cons v R ih =>
    show wG (R.map _) + (if M v = 0 then 0 else f v) ≤ (f v :: R.map f).sum
    rw [List.sum_cons]
    split <;> omega
end ZMr
