/-! A goal is added to what is remembered: the class. -/
theorem cnP_le (f : Int → Int) : ∀ m : Nat, 0 ≤ cnP f m ∧ cnP f m ≤ m := by
  intro m
  induction m with
  | zero => exact ⟨Int.le_refl _, Int.le_refl _⟩
  | succ m ih =>
    unfold cnP
    split <;> omega
theorem cnP_cong {f f' : Int → Int} : ∀ {m : Nat}, (∀ i : Int, 0 ≤ i → i < m → f' i = f i) → cnP f' m = cnP f m := by
  intro m
  induction m with
  | zero => intro _; rfl
  | succ m ih =>
    intro h
    unfold cnP
    rw [ih (fun i i0 i1 => h i i0 (by omega)), h _ (by omega) (by omega)]
theorem cnP_up {f : Int → Int} {v : Int} (hv : 0 ≤ v) {L : Nat} (hL : f ((L : Nat) : Int) < 0) : ∀ {m : Nat}, L < m → cnP (upI f ((L : Nat) : Int) v) m = cnP f m + 1 := by
  intro m
  induction m with
  | zero => intro h; omega
  | succ m ih =>
    intro h
    have e : ∀ k : Nat, upI f ((L : Nat) : Int) v ((k : Nat) : Int) = if k = L then v else f ((k : Nat) : Int) := fun k => by
      unfold upI
      by_cases q : k = L
      · rw [if_pos q, if_pos (by omega)]
      · rw [if_neg q, if_neg (by omega)]
    unfold cnP
    rw [e m]
    by_cases q : m = L
    · rw [if_pos q, if_pos hv, cnP_cong (f := f) (fun i i0 i1 => by unfold upI; rw [if_neg (by omega)]), q, if_neg (by omega)]
      omega
    · rw [if_neg q, ih (by omega)]
      split <;> omega
def mnF (F : Nat) (x : Int) : Prop := (x = 0 ∧ (F = 5000 ∨ F = 5001 ∨ F = 5002 ∨ F = 5004 ∨ F = 5005)) ∨ (F / 1000 = 0 ∧ 251 ≤ x)
/-- what is not of these stays -/
def gq (Fp : Nat → Int → Prop) (σ σ' : jS) : Prop := ∀ F o, F < 900000 → ¬ Fp F o → rs σ' F o = rs σ F o ∧ (∀ i, ra σ' F o i = ra σ F o i) ∧ rl σ' F o = rl σ F o
def memJ (σ : jS) (M : zM) : Prop := ∀ j, (h : j < M.length) → ra σ 5004 0 j = (M[j]).1 ∧ ra σ 5001 0 j = ((M[j]).2.2.length : Nat) ∧ ra σ 5002 0 j = memL M j ∧ 251 ≤ ra σ 5005 0 j ∧ ra σ 5005 0 j < rk σ 0 ∧ fT σ (ra σ 5005 0 j) (M[j]).2.1 ∧ (M[j]).2.1.length ≤ 100 ∧ (∀ t, t ∈ (M[j]).2.1 → t < 104) ∧ (M[j]).2.2.length ≤ 200 ∧ treeW σ 0 0 (memL M j) 0 [(-1, -1)] (M[j]).2.2 ∧ memO (M[j]).2.2
/-- a goal has been added, its tree not yet -/
def memN (σ : jS) (M : zM) (sc : Int) (r : List Int) (k : Int) : Prop := rs σ 5000 0 = ((M.length : Nat) : Int) + 1 ∧ M.length < 40 ∧ memJ σ M ∧
  (ra σ 5004 0 (M.length : Nat) = sc ∧ ra σ 5001 0 (M.length : Nat) = k ∧ ra σ 5002 0 (M.length : Nat) = memL M M.length ∧ 251 ≤ ra σ 5005 0 (M.length : Nat) ∧ ra σ 5005 0 (M.length : Nat) < rk σ 0 ∧ fT σ (ra σ 5005 0 (M.length : Nat)) r) ∧
  (∀ i j : Int, 0 ≤ i → i < 40 → 0 ≤ j → j < 40 → 0 ≤ ra σ 5005 0 i → ra σ 5005 0 i = ra σ 5005 0 j → i = j) ∧ (∀ j : Int, 0 ≤ j → j < 40 → 0 ≤ ra σ 5005 0 j → 251 ≤ ra σ 5005 0 j ∧ ra σ 5005 0 j < rk σ 0 ∧ rl σ 0 (ra σ 5005 0 j) = 100) ∧
  rs σ 6000 0 = memL M M.length ∧ fok 0 0 σ ∧ rkK σ
section ZMa
variable {n : Nat} {σ σ1 : jS} {M : zM} {o o2 : Int} {r : List Int}
theorem c_take {Q : jS → Prop} (hn : 2 ≤ n) (ho : 0 ≤ o) (ho2 : 0 ≤ o2) (hne : ¬ o = o2) (hl : 0 ≤ rl σ 0 o) (hl2 : 0 ≤ rl σ 0 o2) (hl3 : rl σ 0 o2 ≤ 1000) (hq : ∀ σ', sq [(0, o), (1, o)] σ σ' → rs σ' 1 o = rs σ 1 o2 → (∀ i, 0 ≤ i → i < rs σ 1 o2 → i < rl σ 0 o2 → i < rl σ 0 o → ra σ' 0 o i = ra σ 0 o2 i) → Q σ') : TrV n i_Flat_take [jo 0 o, jo 0 o2] σ Q := by
  have loop : ∀ (d i : Nat) (σ1 : jS), ((i : Nat) : Int) + d = max (min (rs σ 1 o2) (rl σ 0 o2)) 0 → sq [(0, o), (1, o)] σ σ1 → rs σ1 1 o = (i : Nat) → (∀ j : Int, 0 ≤ j → j < (i : Nat) → j < rl σ 0 o → ra σ1 0 o j = ra σ 0 o2 j) → J n c_Flat_take none 7 [some (jo 0 o), some (jo 0 o2), some (ji (i : Nat))] [] σ1 (qV Q) := by
    intro d
    induction d with
    | zero =>
      intro i σ1 hi f1 c1 c2
      have e1 : rs σ1 1 o2 = rs σ 1 o2 := f1.nrs 1 o2 (by simp; exact fun w => hne w.symm)
      have e2 : rl σ1 0 o2 = rl σ 0 o2 := f1.nrl 0 o2
      refine wp_Flat_take_7 ⟨ho2, by omega, wp_Flat_length ⟨ho2, by omega, by omega, ?_⟩⟩
      rw [e1, e2, if_pos (by omega)]
      refine ⟨ho, fun s6 e6 => hq s6 ?_ ?_ (fun i' i0 i1 i2 i3 => ?_)⟩
      · rw [e6]; exact f1.pws 1 o _ (List.contains_iff_mem.mpr (by simp))
      · rw [e6, rs_ws, if_pos ⟨rfl, rfl⟩]
      · rw [e6]
        show ra σ1 0 o i' = _
        exact c2 i' i0 (by omega) i3
    | succ d ih =>
      intro i σ1 hi f1 c1 c2
      have e1 : rs σ1 1 o2 = rs σ 1 o2 := f1.nrs 1 o2 (by simp; exact fun w => hne w.symm)
      have e2 : rl σ1 0 o2 = rl σ 0 o2 := f1.nrl 0 o2
      have e3 : ra σ1 0 o2 = ra σ 0 o2 := f1.nraf 0 o2 (by simp; exact fun w => hne w.symm)
      have e4 : rl σ1 0 o = rl σ 0 o := f1.nrl 0 o
      refine wp_Flat_take_7 ⟨ho2, by omega, wp_Flat_length ⟨ho2, by omega, by omega, ?_⟩⟩
      rw [e1, e2, if_neg (by omega), e3]
      refine ⟨ho, hl2, by omega, by omega, c_add ho (by omega) (by omega) (by omega) (fun σ2 g1 g2 g3 => ⟨⟨by omega, by omega⟩, ?_⟩)⟩
      rw [show ((i : Nat) : Int) + 1 = ((i + 1 : Nat) : Int) by omega]
      refine ih (i + 1) σ2 (by omega) (f1.tr g1) (by omega) (fun j j0 j1 j2 => ?_)
      rw [g3, c1, e4]
      by_cases q : ((i : Nat) : Int) < rl σ 0 o
      · rw [if_pos q]
        unfold upI
        by_cases w : j = (i : Nat)
        · rw [if_pos w, w]
        · rw [if_neg w]; exact c2 j j0 (by omega) j2
      · rw [if_neg q]; exact c2 j j0 (by omega) j2
  refine wp_Flat_take ⟨ho, fun s2 e2 => ?_⟩
  have f2 : sq [(0, o), (1, o)] σ s2 := by rw [e2]; exact (sq.rf _ σ).pws 1 o _ (List.contains_iff_mem.mpr (by simp))
  obtain ⟨m, hm⟩ := Int.eq_ofNat_of_zero_le (show 0 ≤ max (min (rs σ 1 o2) (rl σ 0 o2)) 0 by omega)
  exact loop m 0 s2 (by omega) f2 (by rw [e2, rs_ws, if_pos ⟨rfl, rfl⟩]; rfl) (fun j j0 j1 => absurd j1 (by omega))
theorem c_madd {Q : jS → Prop} {sc k : Int} (hn : 4 ≤ n) (hc : cln σ) (hC : cC σ) (hM : memR σ M) (h40 : M.length < 40) (hr : fT σ 243 r) (hrl : r.length ≤ 100)
    (hq : ∀ σ', aq σ σ' → gq mnF σ σ' → memN σ' M sc r k → Q σ') : TrV n i_Memory_add [jo 5 0, ji sc, jo 0 243, ji k] σ Q := by
  refine Tr_known (fun hW => ?_)
  obtain ⟨-, -, -, -, hWk, -, hWl⟩ := hW
  have l1 := cln_at hc 5001 0 40 (by decide)
  have l2 := cln_at hc 5002 0 40 (by decide)
  have l4 := cln_at hc 5004 0 40 (by decide)
  have l5 := cln_at hc 5005 0 40 (by decide)
  have g243 : rl σ 0 243 = 100 := hC.2.1 (243, 100) (by decide)
  have g250 : rl σ 0 250 = 12 := hC.2.1 (250, 12) (by decide)
  have hk250 : 250 < rk σ 0 := hWl 0 250 (by omega) (by omega)
  have c53 := cC_at hC 5003 0 0 (by decide)
  have c30 := cC_at hC 3000 0 0 (by decide)
  obtain ⟨m1, m2, m3, m4, m5, m6, m7, m8, m9, m10, m11, m12, m13, y1, y2, y3⟩ := hM
  have hcn := cnP_le (ra σ 5005 0) 40
  have hcn2 := cnP_le (ra σ 2000 0) 128
  -- the goal is put into its Flat, the columns are set
  have fin : ∀ (σ1 : jS) (o : Int), aq σ σ1 → (∀ F x, F < 900000 → ¬ (F = 5005 ∧ x = 0) → ¬ (F / 1000 = 0 ∧ x = o) → rs σ1 F x = rs σ F x ∧ ra σ1 F x = ra σ F x ∧ rl σ1 F x = rl σ F x) → ra σ1 5005 0 = upI (ra σ 5005 0) (M.length : Nat) o → 251 ≤ o → o < rk σ1 0 → rl σ1 0 o = 100 → rl σ1 5005 0 = 40 → rk σ1 0 ≤ 251 + cnP (ra σ1 5005 0) 40 + cnP (ra σ 2000 0) 128 → (∀ j : Int, 0 ≤ j → j < 40 → ¬ j = (M.length : Nat) → 0 ≤ ra σ 5005 0 j → ¬ ra σ 5005 0 j = o) → (∀ j : Int, 0 ≤ j → j < 128 → 0 ≤ ra σ 2000 0 j → ¬ ra σ 2000 0 j = o) → J n c_Memory_add none 40 [some (jo 5 0), some (ji sc), some (jo 0 243), some (ji k)] [] σ1 (qV Q) := by
    intro σ1 o haq hfr h55 ho1 ho2 hol hl55 hcn1 hne hne2k
    have x50 : rs σ1 5000 0 = ((M.length : Nat) : Int) := by rw [(hfr 5000 0 (by decide) (by omega) (by omega)).1]; exact m1
    have x243 : rl σ1 0 243 = 100 := by rw [(hfr 0 243 (by decide) (by omega) (by omega)).2.2]; exact g243
    have y243 : rs σ1 1 243 = rs σ 1 243 := (hfr 1 243 (by decide) (by omega) (by omega)).1
    have z243 : ra σ1 0 243 = ra σ 0 243 := (hfr 0 243 (by decide) (by omega) (by omega)).2.1
    have hoL : ra σ1 5005 0 (M.length : Nat) = o := by rw [h55]; unfold upI; rw [if_pos rfl]
    refine wp_Memory_add_40 ⟨by omega, by omega, by omega, by omega, by omega, by omega, ?_⟩
    rw [x50, hoL]
    refine ⟨by omega, c_take (by omega) (by omega) (by omega) (by omega) (by omega) (by omega) (by omega) (fun σ2 f2 t2 u2 => ?_)⟩
    have e50 : rs σ2 5000 0 = ((M.length : Nat) : Int) := by rw [f2.nrs 5000 0 (by simp)]; exact x50
    have v1 : rl σ1 5001 0 = 40 := by rw [(hfr 5001 0 (by decide) (by omega) (by omega)).2.2]; exact l1
    have v2 : rl σ1 5002 0 = 40 := by rw [(hfr 5002 0 (by decide) (by omega) (by omega)).2.2]; exact l2
    have v4 : rl σ1 5004 0 = 40 := by rw [(hfr 5004 0 (by decide) (by omega) (by omega)).2.2]; exact l4
    rw [e50, f2.nrl 5004 0, v4]
    refine ⟨by omega, by omega, by omega, fun σ3 e3 => ?_⟩
    have f3 : sq [(5004, 0), (5001, 0), (5002, 0), (5000, 0)] σ2 σ3 := by rw [e3]; exact (sq.rf _ σ2).pwa 5004 0 _ _ (by decide)
    have r3 : ra σ3 5004 0 = upI (ra σ2 5004 0) (M.length : Nat) sc := by
      rw [e3]
      unfold wa
      rw [raf_wA, if_pos ⟨rfl, rfl⟩]
    have s3 : rs σ3 5000 0 = ((M.length : Nat) : Int) := by rw [e3]; exact e50
    rw [s3, f3.nrl 5001 0, f2.nrl 5001 0, v1]
    refine ⟨by omega, by omega, by omega, fun σ4 e4 => ?_⟩
    have f4 : sq [(5004, 0), (5001, 0), (5002, 0), (5000, 0)] σ2 σ4 := by rw [e4]; exact f3.pwa 5001 0 _ _ (by decide)
    have r4 : ra σ4 5001 0 = upI (ra σ3 5001 0) (M.length : Nat) k := by
      rw [e4]
      unfold wa
      rw [raf_wA, if_pos ⟨rfl, rfl⟩]
    have r4' : ra σ4 5004 0 = ra σ3 5004 0 := by rw [e4]; rfl
    have s4 : rs σ4 5000 0 = ((M.length : Nat) : Int) := by rw [e4]; exact s3
    have w53 : rs σ4 5003 0 = 0 := by rw [f4.nrs 5003 0 (by decide), f2.nrs 5003 0 (by simp), (hfr 5003 0 (by decide) (by omega) (by omega)).1]; exact c53
    have w30 : rs σ4 3000 0 = 0 := by rw [f4.nrs 3000 0 (by decide), f2.nrs 3000 0 (by simp), (hfr 3000 0 (by decide) (by omega) (by omega)).1]; exact c30
    have w60 : rs σ4 6000 0 = memL M M.length := by rw [f4.nrs 6000 0 (by decide), f2.nrs 6000 0 (by simp), (hfr 6000 0 (by decide) (by omega) (by omega)).1]; exact m6
    rw [s4, f4.nrl 5002 0, f2.nrl 5002 0, v2, w53, w30, w60]
    refine ⟨by omega, by omega, by omega, by omega, by omega, fun σ5 e5 => ?_⟩
    have f5 : sq [(5004, 0), (5001, 0), (5002, 0), (5000, 0)] σ2 σ5 := by rw [e5]; exact f4.pwa 5002 0 _ _ (by decide)
    have r5 : ra σ5 5002 0 = upI (ra σ4 5002 0) (M.length : Nat) (memL M M.length) := by
      rw [e5]
      unfold wa
      rw [raf_wA, if_pos ⟨rfl, rfl⟩]
    have r5' : ra σ5 5004 0 = ra σ4 5004 0 := by rw [e5]; rfl
    have r5'' : ra σ5 5001 0 = ra σ4 5001 0 := by rw [e5]; rfl
    have s5 : rs σ5 5000 0 = ((M.length : Nat) : Int) := by rw [e5]; exact s4
    rw [s5]
    refine ⟨⟨by omega, by omega⟩, fun σ6 e6 => ?_⟩
    have f6 : sq [(5004, 0), (5001, 0), (5002, 0), (5000, 0)] σ2 σ6 := by rw [e6]; exact f5.pws 5000 0 _ (by decide)
    have s6 : rs σ6 5000 0 = ((M.length : Nat) : Int) + 1 := by rw [e6, rs_ws, if_pos ⟨rfl, rfl⟩]
    have k4 : ra σ6 5004 0 = upI (ra σ 5004 0) (M.length : Nat) sc := by
      rw [show ra σ6 5004 0 = ra σ5 5004 0 by rw [e6]; rfl, r5', r4', r3, f2.nraf 5004 0 (by simp), (hfr 5004 0 (by decide) (by omega) (by omega)).2.1]
    have k1 : ra σ6 5001 0 = upI (ra σ 5001 0) (M.length : Nat) k := by
      rw [show ra σ6 5001 0 = ra σ5 5001 0 by rw [e6]; rfl, r5'', r4, show ra σ3 5001 0 = ra σ2 5001 0 by rw [e3]; rfl, f2.nraf 5001 0 (by simp), (hfr 5001 0 (by decide) (by omega) (by omega)).2.1]
    have k2 : ra σ6 5002 0 = upI (ra σ 5002 0) (M.length : Nat) (memL M M.length) := by
      rw [show ra σ6 5002 0 = ra σ5 5002 0 by rw [e6]; rfl, r5, show ra σ4 5002 0 = ra σ2 5002 0 by rw [e4, e3]; rfl, f2.nraf 5002 0 (by simp), (hfr 5002 0 (by decide) (by omega) (by omega)).2.1]
    have k5 : ra σ6 5005 0 = upI (ra σ 5005 0) (M.length : Nat) o := by rw [f6.nraf 5005 0 (by decide), f2.nraf 5005 0 (by simp)]; exact h55
    have q26 := f2.cq (l' := [(0, o), (1, o)]) (by simp)
    have q66 := f6.cq (l' := [(5004, 0), (5001, 0), (5002, 0), (5000, 0)]) (by decide)
    have kk : rk σ6 0 = rk σ1 0 := by rw [f6.2.2.1, f2.2.2.1]
    have hall : ∀ F x, F < 900000 → ¬ mnF F x → rs σ6 F x = rs σ F x ∧ ra σ6 F x = ra σ F x ∧ rl σ6 F x = rl σ F x := fun F x hF hx => by
      unfold mnF at hx
      obtain ⟨a1, a2, a3⟩ := hfr F x hF (fun w => hx (Or.inl ⟨w.2, by omega⟩)) (fun w => hx (Or.inr ⟨w.1, by omega⟩))
      have n6 : ([(5004, 0), (5001, 0), (5002, 0), (5000, 0)] : List (Nat × Int)).contains (F, x) = false := by
        simp
        omega
      have n2 : ([(0, o), (1, o)] : List (Nat × Int)).contains (F, x) = false := by
        simp
        omega
      rw [f6.nrs F x n6, f6.nraf F x n6, f6.nrl F x, f2.nrs F x n2, f2.nraf F x n2, f2.nrl F x]
      exact ⟨a1, a2, a3⟩
    have hT6 : fT σ6 o r := by
      obtain ⟨t1, t2', t3, t4⟩ := hr
      refine ⟨by omega, ?_, ?_, fun i hi => ?_⟩
      · rw [f6.nrs 1 o (by simp), t2, y243]; exact t2'
      · rw [f6.nrl, f2.nrl]; omega
      · rw [f6.nraf 0 o (by simp), u2 _ (by omega) (by omega) (by omega) (by omega), z243]; exact t4 i hi
    refine hq σ6 ((haq.tr (q26.aq (fun p hp => ?_))).tr (q66.aq (fun p hp => ?_))) (fun F x hF hx => ?_) ⟨s6, h40, fun j hj => ?_, ⟨?_, ?_, ?_, ?_, ?_, ?_⟩, fun i j i0 i1 j0 j1 p0 e => ?_, fun j j0 j1 p0 => ?_, ?_, ?_, ?_⟩
    · simp at hp
      unfold askFp
      rcases hp with w | w <;> rw [w] <;> simp <;> omega
    · simp at hp
      unfold askFp
      rcases hp with w | w | w | w <;> rw [w] <;> simp
    · obtain ⟨a1, a2, a3⟩ := hall F x hF hx
      exact ⟨a1, fun i => by rw [a2], a3⟩
    · obtain ⟨d1, d2, d3, d4, d5, d6, d7, d8, d9, d10⟩ := m3 j hj
      have hj2 : ¬ ((j : Nat) : Int) = ((M.length : Nat) : Int) := by omega
      rw [k4, k1, k2, k5]
      unfold upI
      rw [if_neg hj2, if_neg hj2, if_neg hj2, if_neg hj2]
      have hne2 := hne (j : Nat) (by omega) (by omega) hj2 (by omega)
      have hk2 := haq.2.2.1
      refine ⟨d1, d2, d3, d4, by omega, ?_, d7, d8, d9, ?_, d10.2⟩
      · obtain ⟨t1, t2', t3, t4⟩ := d6
        have n1 : ([(5004, 0), (5001, 0), (5002, 0), (5000, 0)] : List (Nat × Int)).contains (1, ra σ 5005 0 j) = false := by simp
        have n0 : ([(5004, 0), (5001, 0), (5002, 0), (5000, 0)] : List (Nat × Int)).contains (0, ra σ 5005 0 j) = false := by simp
        have n3 : ([(0, o), (1, o)] : List (Nat × Int)).contains (1, ra σ 5005 0 j) = false := by simp; exact hne2
        have n4 : ([(0, o), (1, o)] : List (Nat × Int)).contains (0, ra σ 5005 0 j) = false := by simp; exact hne2
        obtain ⟨a1, -, -⟩ := hfr 1 (ra σ 5005 0 j) (by decide) (by omega) (fun w => hne2 w.2)
        obtain ⟨-, a2, a3⟩ := hfr 0 (ra σ 5005 0 j) (by decide) (by omega) (fun w => hne2 w.2)
        refine ⟨t1, by rw [f6.nrs 1 _ n1, f2.nrs 1 _ n3, a1]; exact t2', by rw [f6.nrl, f2.nrl, a3]; exact t3, fun i hi => by rw [f6.nraf 0 _ n0, f2.nraf 0 _ n4, a2]; exact t4 i hi⟩
      · refine treeW_cong ?_ ?_ ?_ d10.1
        · exact (hall 6001 0 (by decide) (by unfold mnF; omega)).2.1
        · exact (hall 3001 0 (by decide) (by unfold mnF; omega)).2.1
        · exact (hall 3002 0 (by decide) (by unfold mnF; omega)).1
    · rw [k4]; unfold upI; rw [if_pos rfl]
    · rw [k1]; unfold upI; rw [if_pos rfl]
    · rw [k2]; unfold upI; rw [if_pos rfl]
    · rw [k5]; unfold upI; rw [if_pos rfl]; exact ho1
    · rw [k5]; unfold upI; rw [if_pos rfl, kk]; exact ho2
    · rw [k5]; unfold upI; rw [if_pos rfl]; exact hT6
    · rw [k5] at p0 e
      unfold upI at p0 e
      by_cases qi : i = (M.length : Nat)
      · rw [if_pos qi] at p0 e
        by_cases qj : j = (M.length : Nat)
        · omega
        · rw [if_neg qj] at e
          exact absurd e.symm (hne j j0 j1 qj (by omega))
      · rw [if_neg qi] at p0 e
        by_cases qj : j = (M.length : Nat)
        · rw [if_pos qj] at e
          exact absurd e (hne i i0 i1 qi p0)
        · rw [if_neg qj] at e
          exact m4 i j i0 i1 j0 j1 p0 e
    · rw [k5] at p0 ⊢
      unfold upI at p0 ⊢
      have hk2 := haq.2.2.1
      by_cases qj : j = (M.length : Nat)
      · rw [if_pos qj, kk]
        refine ⟨ho1, ho2, ?_⟩
        rw [f6.nrl, f2.nrl]; exact hol
      · rw [if_neg qj] at p0 ⊢
        obtain ⟨d1, d2, d3⟩ := m5 j j0 j1 p0
        refine ⟨d1, by omega, ?_⟩
        rw [f6.nrl, f2.nrl, (hfr 0 _ (by decide) (by omega) (fun w => hne j j0 j1 qj p0 w.2)).2.2]
        exact d3
    · rw [(hall 6000 0 (by decide) (by unfold mnF; omega)).1]; exact m6
    · unfold fok
      rw [(hall 6000 0 (by decide) (by unfold mnF; omega)).1, (hall 6001 0 (by decide) (by unfold mnF; omega)).2.2, (hall 3002 0 (by decide) (by unfold mnF; omega)).1, (hall 3001 0 (by decide) (by unfold mnF; omega)).2.2]
      exact ⟨by rw [m6]; exact memL_0 _, m7, m8, m9, m10, m11, m12⟩
    · have k20 := (hall 2000 0 (by decide) (by unfold mnF; omega)).2.1
      have hk2 := haq.2.2.1
      unfold rkK
      rw [kk, k20]
      refine ⟨by rw [k5, ← h55]; exact hcn1, fun i j i0 i1 j0 j1 p0 p1 => ?_, y2, fun j j0 j1 p0 => ?_⟩
      · rw [k5] at p0 ⊢
        unfold upI at p0 ⊢
        by_cases qi : i = (M.length : Nat)
        · rw [if_pos qi]
          exact fun e => hne2k j j0 j1 p1 e.symm
        · rw [if_neg qi] at p0 ⊢
          exact y1 i j i0 i1 j0 j1 p0 p1
      · obtain ⟨d1, d2, d3⟩ := y3 j j0 j1 p0
        refine ⟨d1, by omega, ?_⟩
        rw [f6.nrl, f2.nrl, (hfr 0 _ (by decide) (by omega) (fun w => hne2k j j0 j1 p0 w.2)).2.2]
        exact d3
  refine wp_Memory_add ⟨by omega, ?_⟩
  rw [m1, if_pos (by omega), l5]
  refine ⟨by omega, by omega, by omega, ?_⟩
  by_cases q : ra σ 5005 0 (M.length : Nat) < 0
  · rw [if_pos q]
    refine ⟨by omega, by omega, fun s5 e5 => ⟨by omega, wp_Flat_init ⟨by omega, by omega, by omega, by omega, fun s3 e3 => ⟨?_, fun s6 e6 => ?_⟩⟩⟩⟩
    · rw [e3, rl_nA, if_neg (fun w => by have := w.1; unfold jtmp at this; omega), e5, rl_nO]
      rcases Int.lt_or_le (rl σ 0 (rk σ 0)) 0 with w | w
      · exact w
      · have : rk σ 0 < rk σ 0 := hWl 0 (rk σ 0) w (by omega)
        omega
    · have d1 : rs s6 5000 0 = ((M.length : Nat) : Int) := by
        rw [e6, rs_mA, e3, rs_nA, e5, rs_nO, if_neg (fun w => by have := w.1; omega)]; exact m1
      have d2 : rl s6 5005 0 = 40 := by
        rw [e6, rl_mA, if_neg (by omega), if_neg (fun w => by have := w.1; unfold jtmp at this; omega), e3, rl_nA, if_neg (fun w => by have := w.1; unfold jtmp at this; omega), e5, rl_nO]; exact l5
      have d3 : ra s6 5005 0 = ra σ 5005 0 := by
        rw [e6, raf_mA, if_neg (by omega), e3, raf_nA, if_neg (fun w => by have := w.1; unfold jtmp at this; omega), e5, raf_nO]
      have dk : ∀ c, rk s6 c = if c = 0 then rk σ 0 + 1 else rk σ c := fun c => by
        rw [e6, rk_mA, e3, rk_nA, e5, rk_nO]
      rw [d2]
      refine ⟨by omega, by omega, by omega, fun s11 e11 => ?_⟩
      have w1 : ∀ F x, rs s11 F x = rs s6 F x := fun F x => by rw [e11]; rfl
      have w2 : ∀ F x, rl s11 F x = rl s6 F x := fun F x => by rw [e11]; rfl
      have w3 : ra s11 5005 0 = upI (ra σ 5005 0) (M.length : Nat) (rk σ 0) := by
        rw [e11]
        unfold wa
        rw [raf_wA, if_pos ⟨rfl, rfl⟩, d3]
      have w4 : ∀ F x, ¬ (F = 5005 ∧ x = 0) → ra s11 F x = ra s6 F x := fun F x hx => by
        rw [e11]
        unfold wa
        rw [raf_wA, if_neg hx]
      have w5 : ∀ c, rk s11 c = if c = 0 then rk σ 0 + 1 else rk σ c := fun c => by rw [e11]; exact dk c
      have w6 : ∀ F x, F < 900000 → rl s6 F x = if F = 0 ∧ x = rk σ 0 then 100 else rl σ F x := fun F x hF => by
        have hj : ¬ (F = jtmp 0 ∧ x = 0) := fun w => by have := w.1; unfold jtmp at this; omega
        rw [e6, rl_mA]
        by_cases w : F = 0 ∧ x = rk σ 0
        · rw [if_pos w, if_pos w, e3, rl_nA, if_pos ⟨rfl, rfl⟩]; decide
        · rw [if_neg w, if_neg w, if_neg hj, e3, rl_nA, if_neg hj, e5, rl_nO]
      have hfr : ∀ F x, F < 900000 → ¬ (F = 5005 ∧ x = 0) → ¬ (F / 1000 = 0 ∧ x = rk σ 0) → rs s11 F x = rs σ F x ∧ ra s11 F x = ra σ F x ∧ rl s11 F x = rl σ F x := fun F x hF h1 h2 => by
        have hj : ¬ (F = jtmp 0 ∧ x = 0) := fun w => by have := w.1; unfold jtmp at this; omega
        refine ⟨?_, ?_, ?_⟩
        · rw [w1, e6, rs_mA, e3, rs_nA, e5, rs_nO, if_neg h2]
        · rw [w4 F x h1, e6, raf_mA, if_neg (fun w => h2 ⟨by rw [w.1], w.2⟩), e3, raf_nA, if_neg hj, e5, raf_nO]
        · rw [w2, w6 F x hF, if_neg (fun w => h2 ⟨by rw [w.1], w.2⟩)]
      have hlens : lens s11 = lens σ := by
        unfold lens
        refine congrArg List.sum (List.map_congr_left (fun p hp => ?_))
        have h1 : ∀ p, p ∈ lenT → p.1 < 900000 ∧ 1000 ≤ p.1 := by decide
        obtain ⟨h2, h3⟩ := h1 p hp
        rw [w2, w6 _ _ h2, if_neg (by omega)]
      have haq : aq σ s11 := by
        refine ⟨fun F x hF hx => ?_, fun c hc => by rw [w5, if_neg hc], by rw [w5, if_pos rfl]; omega, ⟨?_, ?_, ?_⟩, fun hT => jnG_l hT (fun hT t => ?_) ?_ ?_ ?_ ?_, fun F x hF hx hx2 => ?_⟩
        · obtain ⟨a1, a2, a3⟩ := hfr F x hF (fun w => hx (by unfold askFp; rw [w.1, w.2]; simp)) (fun w => hx (by unfold askFp; omega))
          exact ⟨a1, fun i => by rw [a2], a3⟩
        · rw [hlens, w5, if_pos rfl, show rz s11 = rz s6 by rw [e11]; rfl, e6, rz_mA, e3, rz_nA, e5, rz_nO, show (ax_nf 0 : Int) = 2 by decide]
          omega
        · rw [hlens, w5, if_pos rfl, show rc s11 = rc s6 by rw [e11]; rfl, e6, rc_mA, e3, rc_nA, e5, rc_nO]
          omega
        · rw [hlens]; exact Int.le_refl _
        · rw [w2, e6, rl_mA, if_neg (fun w => by have := w.1; unfold jtmp at this; omega)]
          by_cases w : jtmp t = jtmp 0
          · rw [if_pos ⟨w, rfl⟩]; decide
          · rw [if_neg (fun w2 => w w2.1), e3, rl_nA, if_neg (fun w2 => w w2.1), e5, rl_nO]
            exact hT t
        · rw [w2, w6 _ _ (by decide), if_neg (by omega)]
        · rw [w2, w6 _ _ (by decide), if_neg (by omega)]
        · have r1 : rc s11 = rc σ + 2 := by rw [show rc s11 = rc s6 by rw [e11]; rfl, e6, rc_mA, e3, rc_nA, e5, rc_nO]; omega
          rw [hlens, w5, if_pos rfl, r1]
          omega
        · rw [hlens, w5, if_pos rfl, show rz s11 = rz s6 by rw [e11]; rfl, e6, rz_mA, e3, rz_nA, e5, rz_nO, show (ax_nf 0 : Int) = 2 by decide]
          omega
        · rw [w2, w6 F x hF, if_neg (fun w => by have := hx2 w.1; omega)]
      refine fin s11 (rk σ 0) haq hfr w3 (by omega) (by rw [w5, if_pos rfl]; omega) (by rw [w2, w6 _ _ (by decide), if_pos ⟨rfl, rfl⟩]) (by rw [w2]; exact d2) ?_ (fun j j0 j1 hj hp e => ?_) (fun j j0 j1 hp e => ?_)
      · rw [w5, if_pos rfl, w3, cnP_up (by omega) q (by omega)]
        omega
      · have := (m5 j j0 j1 hp).2.1
        omega
      · have := (y3 j j0 j1 hp).2.1
        omega
  · rw [if_neg q]
    have e55 : ra σ 5005 0 = upI (ra σ 5005 0) (M.length : Nat) (ra σ 5005 0 (M.length : Nat)) := funext (fun i => by
      unfold upI
      by_cases w : i = (M.length : Nat)
      · rw [if_pos w, w]
      · rw [if_neg w])
    obtain ⟨d1, d2, d3⟩ := m5 (M.length : Nat) (by omega) (by omega) (by omega)
    exact fin σ _ (aq.rf σ) (fun F x _ _ _ => ⟨rfl, rfl, rfl⟩) e55 d1 d2 d3 l5 m13 (fun j j0 j1 hj hp e => hj (m4 j _ j0 j1 (by omega) (by omega) hp e)) (fun j j0 j1 hp e => y1 (M.length : Nat) j (by omega) (by omega) j0 j1 (by omega) hp e.symm)
end ZMa
