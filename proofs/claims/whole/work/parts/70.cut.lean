/-! Goals that only grow; goals that may be asked; two that are as good: the class. -/
def icF : List (Nat × Int) := [(0, 243), (1, 243), (0, 244), (1, 244), (9008, 0), (9011, 0), (9012, 0), (9014, 0)]
theorem cno_lt : ∀ {l s : List Int}, (∀ t, t ∈ l → t < 104) → ∀ t, t ∈ cno s l → t < 104 := by
  intro l
  induction l with
  | nil => intro s _ t h; cases h
  | cons a l ih =>
    intro s h t ht
    rw [cno_cons] at ht
    have hl : ∀ t, t ∈ l → t < 104 := fun t ht => h t (List.mem_cons_of_mem _ ht)
    by_cases q : a < 0
    · rw [if_pos q] at ht
      rcases List.mem_cons.mp ht with e | e
      · omega
      · exact ih hl t e
    · rw [if_neg q] at ht
      rcases List.mem_cons.mp ht with e | e
      · rw [e]; exact h a List.mem_cons_self
      · exact ih hl t e
section ZCu
variable {n : Nat} {σ : jS} {g : zH} {N : Int} {β E : List (Int × Int)} {x u t o : Int} {T : zT} {s : zS} {path : List (Int × Int)}
theorem fR.fP {L : List Int} (h : fR σ o L) (ho : 0 ≤ o) (hl : rl σ 0 o = 100) (ht : ∀ t, t ∈ L → t < 104) : fP σ o ((cno [] L).take 100) := by
  obtain ⟨h1, h2⟩ := h
  have hc := cno_len L []
  have hlen : ((cno [] L).take 100).length = min 100 L.length := by rw [List.length_take, hc]
  refine ⟨ho, by omega, ?_, fun i hi => ?_, by omega, fun t htm => cno_lt ht t (List.mem_of_mem_take htm)⟩
  · rw [h1, hl, hlen]
    split <;> omega
  · rw [hlen] at hi
    rw [h2 i (by omega) (by omega)]
    show cc (((cno [] L)[i]?).getD 0) = cc ((((cno [] L).take 100)[i]?).getD 0)
    rw [List.getElem?_take, if_pos (by omega)]
theorem ltr_cov {b b' : Int} {r r' : List Int} (h : ltr b r) (h' : ltr b' r') : b = b' ↔ covE r r' := by
  constructor
  · intro e k k0 k1
    rw [← h.2 k k0 k1, ← h'.2 k k0 k1, e]
  · intro e
    refine tb_ext h.1 h'.1 (fun k k0 k1 => ?_)
    have := e k k0 k1
    rw [← h.2 k k0 k1, ← h'.2 k k0 k1] at this
    exact Bool.eq_iff_iff.mpr this
theorem ex_lt (hz : zok g N) (hb : bok g N β) (ha : acy g N β) (x0 : 0 ≤ x) (x1 : x < N) : ∀ t, t ∈ ex g N β x → t < 104 := fun t ht => (ex_let hz hb ha x x0 x1 t ht).1
theorem fF_ic (o : Int) (ho : o = 243 ∨ o = 244) : ((fF o).all (fun p => icF.contains p)) = true := by
  rcases ho with w | w <;> rw [w] <;> decide
/-- the row of a Flat, where the type is no greater than a hundred -/
theorem take_row {r : List Int} (h : r.length ≤ 100) : r.take 100 = r := List.take_of_length_le h
theorem c_isCut {Q : Int → jS → Prop} {k : Int} (hn : 4 ≤ n) (h : cT σ (hG s) (hN s) β) (hr : rep (hG s) (hN s) β (hE s)) (hC : cC σ) (x0 : 0 ≤ x) (x1 : x < hN s) (hxl : (rowE (hG s) (hN s) (hE s) x).length ≤ 100) (hp : ∀ d, (hd : d < path.length) → ra σ 7010 0 d = (path[d]).1 ∧ ra σ 7011 0 d = (path[d]).2 ∧ 0 ≤ (path[d]).2 ∧ (path[d]).2 < hN s) (hd : path.length ≤ 20) (hct : 0 ≤ ra σ 7002 0 3 ∧ ra σ 7002 0 3 < 1000000)
    (hq1 : cutP s path x k → ∀ σ1, sq ((7002, 0) :: icF) σ σ1 → ra σ1 7002 0 = upI (ra σ 7002 0) 3 (ra σ 7002 0 3 + 1) → Q 1 σ1) (hq0 : ¬ cutP s path x k → ∀ σ1, sq icF σ σ1 → Q 0 σ1) : TrI n i_Search_isCut [jo 7 0, ji k, ji x, ji (path.length : Nat)] σ Q := by
  have hz := h.1.2.1
  have hb := h.1.2.2.1
  have rE : ∀ y, 0 ≤ y → y < hN s → rowE (hG s) (hN s) (hE s) y = cno [] (ex (hG s) (hN s) β y) := fun y y0 y1 => rowE_eq hz hr y0 y1
  rw [rE x x0 x1, cno_len] at hxl
  have loop : ∀ (j i : Nat) (σ1 : jS), i + j = path.length → sq icF σ σ1 → (∀ d, (hd : d < path.length) → d < i → ¬ ((path[d]).1 = k ∧ (rowE (hG s) (hN s) (hE s) (path[d]).2).length ≤ (rowE (hG s) (hN s) (hE s) x).length ∧ covE (rowE (hG s) (hN s) (hE s) (path[d]).2) (rowE (hG s) (hN s) (hE s) x))) → J n c_Search_isCut (some .boolean) 3 [some (jo 7 0), some (ji k), some (ji x), some (ji (path.length : Nat)), some (ji (i : Nat))] [] σ1 (qI Q) := by
    intro j
    induction j with
    | zero =>
      intro i σ1 hi f1 hno
      refine wp_Search_isCut_3 ?_
      rw [if_pos (by omega)]
      refine hq0 (fun w => ?_) σ1 f1
      obtain ⟨p, hp1, hp2⟩ := w
      obtain ⟨d, hd1, hd2⟩ := List.getElem_of_mem hp1
      exact hno d hd1 (by omega) (by rw [hd2]; exact hp2)
    | succ j ih =>
      intro i σ1 hi f1 hno
      have hip : i < path.length := by omega
      obtain ⟨p1, p2, p3, p4⟩ := hp i hip
      have h1 := h.sq f1 (by decide)
      have hC1 : cC σ1 := hC.cq (f1.cq (l' := icF) (by decide)) (by decide)
      have l10 := cln_at h1.1.1 7010 0 20 (by decide)
      have l11 := cln_at h1.1.1 7011 0 20 (by decide)
      have l02 := cln_at h1.1.1 7002 0 9 (by decide)
      have t70 := cC_at hC1 7000 0 0 (by decide)
      have t78 := cC_at hC1 7008 0 243 (by decide)
      have t79 := cC_at hC1 7009 0 244 (by decide)
      have g243 : rl σ1 0 243 = 100 := hC1.2.1 (243, 100) (by decide)
      have g244 : rl σ1 0 244 = 100 := hC1.2.1 (244, 100) (by decide)
      have on : ∀ σ2, sq icF σ1 σ2 → ¬ ((path[i]).1 = k ∧ (rowE (hG s) (hN s) (hE s) (path[i]).2).length ≤ (rowE (hG s) (hN s) (hE s) x).length ∧ covE (rowE (hG s) (hN s) (hE s) (path[i]).2) (rowE (hG s) (hN s) (hE s) x)) → i32 ((i : Nat) + (1 : Int)) ∧ J n c_Search_isCut (some .boolean) 3 [some (jo 7 0), some (ji k), some (ji x), some (ji (path.length : Nat)), some (ji ((i : Nat) + 1))] [] σ2 (qI Q) := fun σ2 c1 c2 => by
        refine ⟨⟨by omega, by omega⟩, ih (i + 1) σ2 (by omega) (f1.tr c1) (fun d hd1 hd2 => ?_)⟩
        by_cases w : d = i
        · subst w; exact c2
        · exact hno d hd1 (by omega)
      refine wp_Search_isCut_3 ?_
      rw [if_neg (by omega), if_neg (by omega), f1.nraf 7010 0 (by decide), p1]
      refine ⟨by omega, by omega, by omega, by omega, ?_⟩
      by_cases q : (path[i]).1 = k
      · rw [if_neg (fun w => w q), t70, t78]
        refine ⟨by omega, by omega, c_flatten (by omega) h1 hr.2.1 (by omega) g243 x0 x1 (fun σ2 c1 c2 => ?_)⟩
        have f2 : sq icF σ1 σ2 := c1.mo (fF_ic 243 (Or.inl rfl))
        have h2 := h1.sq f2 (by decide)
        have hC2 : cC σ2 := hC1.cq (f2.cq (l' := icF) (by decide)) (by decide)
        have t70b := cC_at hC2 7000 0 0 (by decide)
        have t79b := cC_at hC2 7009 0 244 (by decide)
        rw [t70b, t79b, f2.nrl 7011 0, f2.nraf 7011 0 (by decide), f1.nraf 7011 0 (by decide), p2]
        refine ⟨by omega, by omega, by omega, c_flatten (by omega) h2 hr.2.1 (by omega) (by rw [f2.nrl]; exact g244) p3 p4 (fun σ3 d1 d2 => ?_)⟩
        have f3 : sq icF σ1 σ3 := f2.tr (d1.mo (fF_ic 244 (Or.inr rfl)))
        have h3 := h1.sq f3 (by decide)
        have hC3 : cC σ3 := hC1.cq (f3.cq (l' := icF) (by decide)) (by decide)
        have t78c := cC_at hC3 7008 0 243 (by decide)
        have t79c := cC_at hC3 7009 0 244 (by decide)
        have c3 : fR σ3 243 (ex (hG s) (hN s) β x) := by
          obtain ⟨w1, w2⟩ := c2
          refine ⟨by rw [d1.nrs 1 243 (by decide)]; exact w1, fun j' a b => by rw [d1.nra 0 243 _ (by decide)]; exact w2 j' a b⟩
        have s243 := c3.1
        have s244 := d2.1
        rw [if_pos hxl] at s243
        have r1 := rE (path[i]).2 p3 p4
        have r2 := rE x x0 x1
        have len1 := cno_len (ex (hG s) (hN s) β (path[i]).2) []
        have len2 := cno_len (ex (hG s) (hN s) β x) []
        by_cases q2 : (ex (hG s) (hN s) β (path[i]).2).length ≤ (ex (hG s) (hN s) β x).length
        · rw [if_pos (by omega)] at s244
          rw [t78c, t79c, s243, s244]
          refine ⟨by omega, by omega, ?_⟩
          rw [if_neg (by omega)]
          have fp1 := fR.fP d2 (by omega) (by rw [f3.nrl]; exact g244) (ex_lt hz hb hr.2.1 p3 p4)
          have fp2 := fR.fP c3 (by omega) (by rw [f3.nrl]; exact g243) (ex_lt hz hb hr.2.1 x0 x1)
          rw [take_row (by omega)] at fp1 fp2
          refine c_cover (by omega) fp1 (fun b1 hb1 => ?_)
          rw [t78c]
          refine ⟨by omega, c_cover (by omega) fp2 (fun b2 hb2 => ?_)⟩
          by_cases q3 : b1 = b2
          · rw [if_neg (fun w => w q3)]
            have hcut : cutP s path x k := ⟨path[i], List.getElem_mem hip, q, by rw [r1, r2]; omega, by rw [r1, r2]; exact (ltr_cov hb1 hb2).mp q3⟩
            have a02 : ra σ3 7002 0 = ra σ 7002 0 := by rw [f3.nraf 7002 0 (by decide), f1.nraf 7002 0 (by decide)]
            rw [f3.nrl 7002 0, a02]
            refine ⟨by omega, by omega, ⟨by omega, by omega⟩, fun s27 e27 => hq1 hcut s27 ?_ ?_⟩
            · rw [e27]; exact ((f1.tr f3).mo (l' := (7002, 0) :: icF) (by decide)).pwa 7002 0 _ _ (by decide)
            · rw [e27]
              unfold wa
              rw [raf_wA, if_pos ⟨rfl, rfl⟩, a02]
          · rw [if_pos q3]
            exact on σ3 f3 (fun w => q3 ((ltr_cov hb1 hb2).mpr (by rw [← r1, ← r2]; exact w.2.2)))
        · rw [t78c, t79c, s243]
          refine ⟨by omega, by omega, ?_⟩
          rw [if_pos (by rw [s244]; split <;> omega)]
          exact on σ3 f3 (fun w => q2 (by have := w.2.1; rw [r1, r2, len1, len2] at this; exact this))
      · rw [if_pos q]
        exact on σ1 (sq.rf _ _) (fun w => q w.1)
  exact wp_Search_isCut (loop path.length 0 σ (by omega) (sq.rf _ σ) (fun d _ h0 => absurd h0 (Nat.not_lt_zero d)))
/-- whether a goal may be asked; its row -/
theorem c_mayAsk {Q : Int → jS → Prop} {d : Int} (hn : 4 ≤ n) (h : cT σ (hG s) (hN s) β) (hr : rep (hG s) (hN s) β (hE s)) (hC : cC σ) (x0 : 0 ≤ x) (x1 : x < hN s)
    (hq3 : ra σ 7002 0 1 = 200 → Q 0 (ws σ 7017 0 3)) (hq4 : ¬ ra σ 7002 0 1 = 200 → 20 ≤ d → Q 0 (ws σ 7017 0 4)) (hq5 : ¬ ra σ 7002 0 1 = 200 → ¬ 20 ≤ d → 100 < (rowE (hG s) (hN s) (hE s) x).length → ∀ σ1, sq icF σ σ1 → Q 0 (ws σ1 7017 0 5))
    (hq : ¬ ra σ 7002 0 1 = 200 → ¬ 20 ≤ d → ¬ 100 < (rowE (hG s) (hN s) (hE s) x).length → ∀ σ1, sq icF σ σ1 → fT σ1 243 (rowE (hG s) (hN s) (hE s) x) → Q 1 σ1) : TrI n i_Search_mayAsk [jo 7 0, ji x, ji d] σ Q := by
  have hz := h.1.2.1
  have t70 := cC_at hC 7000 0 0 (by decide)
  have t78 := cC_at hC 7008 0 243 (by decide)
  have g243 : rl σ 0 243 = 100 := hC.2.1 (243, 100) (by decide)
  have l02 := cln_at h.1.1 7002 0 9 (by decide)
  have r1 := rowE_eq hz hr x0 x1
  have len1 := cno_len (ex (hG s) (hN s) β x) []
  refine wp_Search_mayAsk ⟨by omega, by omega, by omega, ?_⟩
  by_cases q : ra σ 7002 0 1 = 200
  · rw [if_neg (fun w => w q)]
    exact fun s11 e11 => by rw [e11]; exact hq3 q
  · rw [if_pos q]
    by_cases q2 : 20 ≤ d
    · rw [if_neg (by omega)]
      exact fun s11 e11 => by rw [e11]; exact hq4 q q2
    · rw [if_pos (by omega), t70, t78]
      refine ⟨by omega, by omega, c_flatten (by omega) h hr.2.1 (by omega) g243 x0 x1 (fun σ2 c1 c2 => ?_)⟩
      have f2 : sq icF σ σ2 := c1.mo (fF_ic 243 (Or.inl rfl))
      have hC2 : cC σ2 := hC.cq (f2.cq (l' := icF) (by decide)) (by decide)
      have t78b := cC_at hC2 7008 0 243 (by decide)
      rw [t78b, c2.1]
      refine ⟨by omega, ?_⟩
      by_cases q3 : (ex (hG s) (hN s) β x).length ≤ 100
      · rw [if_pos q3, if_pos (by omega)]
        refine hq q q2 (by rw [r1, len1]; omega) σ2 f2 ?_
        rw [r1]
        exact c2.fT q3 (by omega) (by rw [f2.nrl]; exact g243)
      · rw [if_neg q3, if_neg (by omega)]
        exact fun s9 e9 => by rw [e9]; exact hq5 q q2 (by rw [r1, len1]; omega) σ2 f2
/-- two that are as good are told -/
theorem c_tellBoth {Q : jS → Prop} {a b : Int} (hn : 4 ≤ n) (h : cT σ (hG s) (hN s) β) (hr : rep (hG s) (hN s) β (hE s)) (hC : cC σ) (x0 : 0 ≤ x) (x1 : x < hN s) (hxl : (rowE (hG s) (hN s) (hE s) x).length ≤ 100)
    (hq : ∀ σ1, sq [(7017, 0), (7004, 0), (7005, 0), (0, 242), (1, 242), (9008, 0), (9011, 0), (9012, 0), (9014, 0)] σ σ1 → rs σ1 7017 0 = 2 → rs σ1 7004 0 = a → rs σ1 7005 0 = b → fT σ1 242 (rowE (hG s) (hN s) (hE s) x) → Q σ1) : TrV n i_Search_tellBoth [jo 7 0, ji a, ji b, ji x] σ Q := by
  have hz := h.1.2.1
  have r1 := rowE_eq hz hr x0 x1
  have len1 := cno_len (ex (hG s) (hN s) β x) []
  rw [r1, len1] at hxl
  refine wp_Search_tellBoth ⟨by omega, fun s2 e2 s3 e3 s4 e4 => ⟨by omega, ?_⟩⟩
  have f4 : sq [(7017, 0), (7004, 0), (7005, 0)] σ s4 := by
    rw [e4, e3, e2]
    exact (((sq.rf _ σ).pws 7017 0 _ (by decide)).pws 7004 0 _ (by decide)).pws 7005 0 _ (by decide)
  have hC4 : cC s4 := hC.cq (f4.cq (l' := [(7017, 0), (7004, 0), (7005, 0)]) (by decide)) (by decide)
  have h4 := h.sq f4 (by decide)
  have t70 := cC_at hC4 7000 0 0 (by decide)
  have t73 := cC_at hC4 7003 0 242 (by decide)
  have g242 : rl s4 0 242 = 100 := hC4.2.1 (242, 100) (by decide)
  rw [t70, t73]
  refine ⟨by omega, c_flatten (by omega) h4 hr.2.1 (by omega) g242 x0 x1 (fun σ2 c1 c2 => hq σ2 ((f4.mo (by decide)).tr (c1.mo (by decide))) ?_ ?_ ?_ ?_)⟩
  · rw [c1.nrs 7017 0 (by decide), e4, rs_ws, if_neg (by decide), e3, rs_ws, if_neg (by decide), e2, rs_ws, if_pos ⟨rfl, rfl⟩]
  · rw [c1.nrs 7004 0 (by decide), e4, rs_ws, if_neg (by decide), e3, rs_ws, if_pos ⟨rfl, rfl⟩]
  · rw [c1.nrs 7005 0 (by decide), e4, rs_ws, if_pos ⟨rfl, rfl⟩]
  · rw [r1]
    exact c2.fT hxl (by omega) (by rw [c1.nrl]; exact g242)
end ZCu
