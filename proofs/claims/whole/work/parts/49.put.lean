/-! Rows that grow; what is put for unknowns, and goes again: the class's way. -/
def grw (σ : jS) (F : Nat) (o : Int) (σ' : jS) : Prop :=
  (∀ F' o', rs σ' F' o' = rs σ F' o') ∧ (∀ F' o', F' < 900000 → ¬ (F' = F ∧ o' = o) → ra σ' F' o' = ra σ F' o' ∧ rl σ' F' o' = rl σ F' o') ∧ rl σ' F o = rl σ F o * 2 ∧ (∀ i, 0 ≤ i → i < rl σ F o → ra σ' F o i = ra σ F o i) ∧ (∀ i, rl σ F o ≤ i → ra σ' F o i = 0) ∧ (∀ c, rk σ' c = rk σ c) ∧ rc σ' = rc σ + 1 ∧ rz σ' = rz σ + rl σ F o * 2 ∧ (jnT σ → jnT σ')
section ZP
variable {n : Nat} {σ : jS} {g : zH} {N : Int} {β : List (Int × Int)} {x u t : Int} {Rs : List Int}
theorem t_grown {Q : Nat → Int → jS → Prop} {F : Nat} {o most : Int} (hn : 2 ≤ n) (hj : jt F = 0) (hF : F < 800000) (h0 : 1 ≤ rl σ F o) (h1 : rl σ F o * 2 ≤ most) (h2 : rl σ F o * 2 ≤ 2000000) (hq : ∀ s, (∀ s', s' = mA s 0 F o → grw σ F o s') → Q 900000 0 s) : TrA n i_Terms_grown [ja F o, ji most] σ Q := by
  refine wp_Terms_grown ⟨by omega, ⟨by omega, by omega⟩, ?_⟩
  rw [if_neg (by omega)]
  refine ⟨by omega, wp_Arrays_copyOf ⟨by omega, ?_⟩⟩
  rw [if_pos (by omega)]
  have hFt : ¬ F = jtmp 0 := by unfold jtmp; omega
  refine ⟨by omega, by omega, hFt, fun s2 e2 => ?_⟩
  have r1 : rl s2 F o = rl σ F o := by rw [e2, rl_nA, if_neg (fun q => hFt q.1)]
  have r2 : rl s2 900000 0 = rl σ F o * 2 := by rw [e2, rl_nA]; exact if_pos ⟨rfl, rfl⟩
  have r3 : ra s2 F o = ra σ F o := by rw [e2, raf_nA, if_neg (fun q => hFt q.1)]
  rw [r1, r2]
  have hm : min (rl σ F o) (rl σ F o * 2) = rl σ F o := by omega
  rw [hm, r3]
  refine ⟨by omega, hj, by unfold jscr; omega, by omega, by omega, by omega, fun s7 e7 => hq s7 (fun s' e' => ?_)⟩
  have q1 : ∀ F' o', F' < 900000 → ra s7 F' o' = ra σ F' o' := fun F' o' hF' => by
    rw [e7, raf_wA, if_neg (fun q => by omega), e2, raf_nA, if_neg (fun q => by have := q.1; unfold jtmp at this; omega)]
  have q2 : ∀ F' o', F' < 900000 → rl s7 F' o' = rl σ F' o' := fun F' o' hF' => by
    rw [e7, rl_wA, e2, rl_nA, if_neg (fun q => by have := q.1; unfold jtmp at this; omega)]
  have q3 : ra s7 (jtmp 0) 0 = fun j => if 0 ≤ j ∧ j < 0 + rl σ F o then ra σ F o (0 + (j - 0)) else ra s2 900000 0 j := by
    rw [e7, raf_wA, if_pos ⟨rfl, rfl⟩]
  have q4 : ra s2 900000 0 = fun _ => 0 := by rw [e2, raf_nA]; exact if_pos ⟨rfl, rfl⟩
  have q5 : rl s7 (jtmp 0) 0 = rl σ F o * 2 := by rw [e7, rl_wA]; exact r2
  subst e'
  refine ⟨fun F' o' => ?_, fun F' o' hF' hne => ⟨?_, ?_⟩, ?_, fun i i0 i1 => ?_, fun i i1 => ?_, fun c => ?_, ?_, ?_, fun hT t => ?_⟩
  · rw [rs_mA, e7, rs_wA, e2, rs_nA]
  · rw [raf_mA, if_neg hne, q1 F' o' hF']
  · rw [rl_mA, if_neg hne, if_neg (fun q => by have := q.1; unfold jtmp at this; omega), q2 F' o' hF']
  · rw [rl_mA_self, q5]
  · rw [raf_mA, if_pos ⟨rfl, rfl⟩, q3]
    dsimp only
    rw [if_pos (by omega), show 0 + (i - 0) = i by omega]
  · rw [raf_mA, if_pos ⟨rfl, rfl⟩, q3, q4]
    dsimp only
    rw [if_neg (by omega)]
  · rw [rk_mA, e7, rk_wA, e2, rk_nA]
  · rw [rc_mA, e7, rc_wA, e2, rc_nA]
  · rw [rz_mA, e7, rz_wA, e2, rz_nA]
  · have ht : ¬ jtmp t = F := by unfold jtmp; omega
    rw [rl_mA, if_neg (fun q => ht q.1)]
    by_cases q : jtmp t = jtmp 0
    · rw [if_pos ⟨q, rfl⟩]; decide
    · rw [if_neg (fun w => q w.1), e7, rl_wA, e2, rl_nA, if_neg (fun w => q w.1)]
      exact hT t
theorem grw.cq {σ' : jS} {F : Nat} {o : Int} (h : grw σ F o σ') (hF : F < 900000) (h1 : 1 ≤ rl σ F o) (hl : lens σ' = lens σ + rl σ F o) (hm : (F, o) ∈ lenT) (h3 : F = 3001 → rl σ F o ≤ 900000) (h4 : ¬ F = 3001 → 256 ≤ rl σ F o) : cq [(F, o)] σ σ' := by
  obtain ⟨g1, g2, g3, g4, g5, g6, g7, g8, g9⟩ := h
  refine ⟨fun F' o' hF' q => ?_, g6, ⟨?_, ?_, ?_⟩, fun F' o' hF' q => (g2 F' o' hF' (fun e => q (by rw [e.1, e.2]; exact hm))).2, fun hG => ?_⟩
  · have hne : ¬ (F' = F ∧ o' = o) := fun e => q (by rw [e.1, e.2]; exact List.mem_cons_self)
    exact ⟨g1 F' o', fun i => by rw [(g2 F' o' hF' hne).1], (g2 F' o' hF' hne).2⟩
  · omega
  · omega
  · omega
  · obtain ⟨a1, a2, a3, a4, a5⟩ := hG
    have key : ∀ q : Int, pw4 (rl σ 3001 q) → pw4 (rl σ' 3001 q) := fun q hq => by
      by_cases w : 3001 = F ∧ q = o
      · obtain ⟨w1, w2⟩ := w
        subst w1
        subst w2
        rw [g3]
        have := h3 rfl
        unfold pw4 at hq ⊢
        omega
      · rw [(g2 3001 q (by decide) w).2]; exact hq
    have h256 : 256 ≤ rl σ F o := by
      by_cases w : F = 3001
      · subst w
        have h01 : o = 0 ∨ o = 1 := by
          have : ∀ p, p ∈ lenT → p.1 = 3001 → p.2 = 0 ∨ p.2 = 1 := by decide
          exact this _ hm rfl
        rcases h01 with w | w
        · rw [w]; unfold pw4 at a2; omega
        · rw [w]; unfold pw4 at a3; omega
      · exact h4 w
    exact ⟨g9 a1, key 0 a2, key 1 a3, by rw [g7, hl, g6]; omega, by rw [g8, hl, g6]; omega⟩
theorem sum_upd {f f' : Nat × Int → Int} {p : Nat × Int} : ∀ {l : List (Nat × Int)}, l.Nodup → p ∈ l → (∀ q, q ∈ l → ¬ q = p → f' q = f q) → (l.map f').sum = (l.map f).sum + (f' p - f p) := by
  intro l
  induction l with
  | nil => intro _ h; cases h
  | cons a l ih =>
    intro hn hp h
    rw [List.nodup_cons] at hn
    rw [List.map_cons, List.map_cons, List.sum_cons, List.sum_cons]
    rcases List.mem_cons.mp hp with e | e
    · subst e
      have : l.map f' = l.map f := List.map_congr_left (fun q hq => h q (List.mem_cons_of_mem _ hq) (fun w => hn.1 (by rw [← w]; exact hq)))
      rw [this]
      omega
    · rw [ih hn.2 e (fun q hq => h q (List.mem_cons_of_mem _ hq)), h a List.mem_cons_self (fun w => hn.1 (by rw [w]; exact e))]
      omega
theorem lens_grw {σ' : jS} {F : Nat} {o : Int} (h : grw σ F o σ') (hm : (lenT.contains (F, o)) = true) : lens σ' = lens σ + rl σ F o := by
  obtain ⟨g1, g2, g3, g4, g5, g6, g7, g8, g9⟩ := h
  unfold lens
  rw [sum_upd (f := fun p => rl σ p.1 p.2) (p := (F, o)) (by decide) (List.contains_iff_mem.mp hm) (fun q hq hne => (g2 q.1 q.2 (by
    have : ∀ q, q ∈ lenT → q.1 < 900000 := by decide
    exact this q hq) (fun e => hne (by rw [← e.1, ← e.2]))).2)]
  dsimp only
  omega
theorem trl_cong {f f' : Int → Int} : ∀ {β : List (Int × Int)}, (∀ i, 0 ≤ i → i < (β.length : Nat) → f' i = f i) → trl f β → trl f' β := by
  intro β
  induction β with
  | nil => intro _ _; trivial
  | cons a β ih =>
    obtain ⟨v, s⟩ := a
    intro h ht
    refine ⟨?_, ih (fun i i0 i1 => h i i0 (by rw [List.length_cons]; omega)) ht.2⟩
    rw [h _ (by omega) (by rw [List.length_cons]; omega)]
    exact ht.1
theorem cT0_grw {σ' : jS} (h : cT0 σ g N β) (e : grw σ 9006 0 σ') (hlt : rl σ 9006 0 < 65536) : cT0 σ' g N β ∧ (β.length : Nat) ≤ rl σ 9006 0 ∧ rl σ' 9006 0 = rl σ 9006 0 * 2 := by
  obtain ⟨h1, h2, h3, h4, h5, h6, h7, h8, h9, h10, h11, h12, ⟨h13, h13b⟩, h14⟩ := h
  obtain ⟨g1, g2, g3, g4, g5, g6, g7, g8, g9⟩ := e
  have k : ∀ F, F < 900000 → ¬ F = 9006 → ra σ' F 0 = ra σ F 0 ∧ rl σ' F 0 = rl σ F 0 := fun F h h' => g2 F 0 h (fun q => h' q.1)
  refine ⟨?_, h13b, g3⟩
  unfold cT0
  rw [(k 9003 (by decide) (by decide)).1, (k 9005 (by decide) (by decide)).1, g1, g1, (k 9003 (by decide) (by decide)).2, (k 9004 (by decide) (by decide)).2, (k 9005 (by decide) (by decide)).2, g3]
  refine ⟨fun p hp => ?_, h2, h3, h4, h5, h6, h7, h8, ?_, h10, h11, h12, ⟨h13, by unfold gr2 at h9; omega⟩, trl_cong (fun i i0 i1 => g4 i (by omega) (by omega)) h14⟩
  · have hne : ∀ p, p ∈ clT → p.1.1 < 900000 ∧ ¬ (p.1.1 = 9006 ∧ p.1.2 = 0) := by decide
    exact (g2 _ _ (hne p hp).1 (hne p hp).2).2.trans (h1 p hp)
  · unfold gr2 at h9 ⊢; omega
def pF : List (Nat × Int) := [(9001, 0), (9005, 0), (9006, 0)]
/-- t is put for u -/
theorem c_put25 {Q : jS → Prop} (hn : 1 ≤ n) (h : cT0 σ g N β) (hlt : (β.length : Nat) < rl σ 9006 0) (u0 : 0 ≤ u) (u1 : u < N) (hu : gh g u = -1) (hf : bl β u = -1) (t0 : 0 ≤ t) (t1 : t < N) (hq : ∀ σ', cT0 σ' g N ((u, t) :: β) → sq pF σ σ' → Q σ') : J n c_Terms_put none 25 [some (jo 9 0), some (ji u), some (ji t)] [] σ (qV Q) := by
  have h0 := h
  obtain ⟨h1, h2, h3, h4, h5, h6, h7, h8, h9, h10, h11, h12, ⟨h13, h13b⟩, h14⟩ := h
  have hb2 : bok g N ((u, t) :: β) := bind_bok h3 u0 u1 hu hf t0 t1
  have hlen := bl_len hb2
  rw [List.length_cons] at hlen
  refine wp_Terms_put_25 ⟨by omega, by omega, ?_⟩
  rw [h13, if_neg (by omega)]
  refine ⟨by omega, by omega, fun σ1 e1 => ?_⟩
  have r1 : rs σ1 9001 0 = (β.length : Nat) := by rw [e1]; exact h13
  rw [r1]
  refine ⟨⟨by omega, by omega⟩, fun σ2 e2 => ⟨hn, ?_⟩⟩
  have e3 : sq pF σ σ1 := by rw [e1]; exact (sq.rf _ σ).pwa 9006 0 _ _ (by decide)
  have e4 : sq pF σ σ2 := by rw [e2]; exact e3.pws 9001 0 _ (by decide)
  have a3 : ra σ2 9003 0 = ra σ 9003 0 := by rw [e2, e1]; rfl
  have a5 : ra σ2 9005 0 = ra σ 9005 0 := by rw [e2, e1]; rfl
  have a6 : ra σ2 9006 0 = upI (ra σ 9006 0) (β.length : Nat) u := by
    rw [e2, e1]
    show upI (ra σ 9006 0) (β.length : Nat) u = _
    rfl
  have a0 : rs σ2 9000 0 = N := by rw [e4.nrs 9000 0 (by decide)]; exact h4
  have a1 : rs σ2 9001 0 = (β.length : Nat) + 1 := by rw [e2, rs_ws, if_pos ⟨rfl, rfl⟩]
  refine c_setPart0 (k := 0) a0 h6 (by rw [e4.nrl 9005 0]; omega) u0 u1 (by omega) ?_
  have e5 : sq pF σ (wa σ2 9005 0 (u * 3 + ((0 : Nat) : Int)) t) := e4.pwa 9005 0 _ _ (by decide)
  refine hq _ ?_ e5
  have b5 : ra (wa σ2 9005 0 (u * 3 + ((0 : Nat) : Int)) t) 9005 0 = upI (ra σ 9005 0) (u * 3) t := by
    rw [show u * 3 + ((0 : Nat) : Int) = u * 3 by omega]
    unfold wa
    rw [raf_wA, if_pos ⟨rfl, rfl⟩, a5]
  unfold cT0
  rw [b5, show ra (wa σ2 9005 0 (u * 3 + ((0 : Nat) : Int)) t) 9003 0 = ra σ 9003 0 from a3, show ra (wa σ2 9005 0 (u * 3 + ((0 : Nat) : Int)) t) 9006 0 = _ from a6, show rs (wa σ2 9005 0 (u * 3 + ((0 : Nat) : Int)) t) 9000 0 = N from a0, show rs (wa σ2 9005 0 (u * 3 + ((0 : Nat) : Int)) t) 9001 0 = _ from a1, e5.nrl 9003 0, e5.nrl 9004 0, e5.nrl 9005 0, e5.nrl 9006 0]
  refine ⟨h1.sq e5, h2, hb2, rfl, h5, h6, h7, h8, h9, h10, fun m m0 m1 k hk => ?_, fun m m0 m1 hm => ?_, ⟨by rw [List.length_cons]; omega, by rw [List.length_cons]; omega⟩, ⟨?_, trl_cong (fun i i0 i1 => ?_) h14⟩⟩
  · unfold upI
    have hmu : ¬ m = u := fun q => by
      rw [q, hu] at hk
      exact absurd hk (Nat.not_lt_zero k)
    have := pN_3 h2 m0 m1
    rw [if_neg (by omega)]
    exact h11 m m0 m1 k hk
  · unfold upI
    by_cases q : m = u
    · rw [if_pos (by rw [q]), q, bl_cons_eq]
    · rw [if_neg (by omega), bl_cons_ne q]
      exact h12 m m0 m1 hm
  · unfold upI
    rw [if_pos rfl]
  · unfold upI
    rw [if_neg (by omega)]
theorem c_put {Q : jS → Prop} (hn : 3 ≤ n) (h : cT σ g N β) (u0 : 0 ≤ u) (u1 : u < N) (hu : gh g u = -1) (hf : bl β u = -1) (t0 : 0 ≤ t) (t1 : t < N) (hq : ∀ σ', cT σ' g N ((u, t) :: β) → cq pF σ σ' → Q σ') : TrV n i_Terms_put [jo 9 0, ji u, ji t] σ Q := by
  obtain ⟨h, hmk⟩ := h
  have hb2 : bok g N ((u, t) :: β) := bind_bok h.2.2.1 u0 u1 hu hf t0 t1
  have hlen := bl_len hb2
  rw [List.length_cons] at hlen
  have hzu := h.2.2.2.2.2.2.1
  have h9 := h.2.2.2.2.2.2.2.2.1
  have h13 := h.2.2.2.2.2.2.2.2.2.2.2.2.1
  refine wp_Terms_put ⟨by omega, by unfold gr2 at h9; omega, ?_⟩
  by_cases q : rs σ 9001 0 = rl σ 9006 0
  · rw [if_neg (fun w => w q)]
    refine ⟨by omega, t_grown (by omega) rfl (by decide) (by unfold gr2 at h9; omega) (by unfold gr2 at h9; omega) (by unfold gr2 at h9; omega) (fun s hs => ?_)⟩
    rw [if_pos ⟨rfl, rfl⟩]
    intro s8 e8
    have hg := hs s8 e8
    obtain ⟨k1, k2, k3⟩ := cT0_grw h hg (by unfold gr2 at h9; omega)
    have hcq : cq pF σ s8 := (hg.cq (by decide) (by unfold gr2 at h9; omega) (lens_grw hg (by decide)) (by decide) (fun w => absurd w (by decide)) (fun _ => by unfold gr2 at h9; omega)).mo (by decide)
    refine c_put25 (by omega) k1 (by rw [k3]; unfold gr2 at h9; omega) u0 u1 hu hf t0 t1 (fun σ' c1 c2 => hq σ' ⟨c1, ?_⟩ (hcq.tr (c2.cq (by decide))))
    refine mk0.sq ?_ c2 (by decide)
    unfold mk0
    rw [hcq.nraf 9004 0 (by decide) (by decide), hcq.nrl 9004 0 (by decide) (by decide)]
    exact hmk
  · rw [if_pos q]
    exact c_put25 (by omega) h (by omega) u0 u1 hu hf t0 t1 (fun σ' c1 c2 => hq σ' ⟨c1, hmk.sq c2 (by decide)⟩ (c2.cq (by decide)))
end ZP
