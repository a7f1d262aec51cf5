/-! The class makes nodes. -/
def bF : List (Nat × Int) := [(9000, 0), (9003, 0), (9004, 0), (9005, 0), (9008, 0), (9010, 0), (9012, 0)]
def mkF : List (Nat × Int) := [(9000, 0), (9003, 0), (9004, 0), (9005, 0)]
/-- a node N with sign s has been made, its first k parts are those of ps -/
def mkd (lf : List (Nat × Int)) (σ σ1 : jS) (N s : Int) (k : Nat) (ps : List Int) : Prop :=
  cq lf σ σ1 ∧ rs σ1 9000 0 = N + 1 ∧ (N + 1 ≤ rl σ1 9003 0 ∧ gr2 (rl σ1 9003 0) ∧ rl σ1 9004 0 = rl σ1 9003 0 ∧ rl σ1 9005 0 = 3 * rl σ1 9003 0) ∧ (∀ i, 0 ≤ i → i < N → ra σ1 9003 0 i = ra σ 9003 0 i) ∧ ra σ1 9003 0 N = s ∧ (∀ i, 0 ≤ i → i < N * 3 → ra σ1 9005 0 i = ra σ 9005 0 i) ∧ (∀ i : Nat, i < k → ra σ1 9005 0 (N * 3 + i) = ps.getD i 0) ∧ mk0 σ1
section ZN
variable {n : Nat} {σ : jS} {g : zH} {N : Int} {β : List (Int × Int)} {x u t s : Int} {vs : Int → Int}
theorem bok_set {h : Int} {ps : List Int} : ∀ {β : List (Int × Int)}, bok g N β → bok (gset g N h ps) (N + 1) β := by
  intro β
  induction β with
  | nil => intro _; trivial
  | cons a β ih =>
    obtain ⟨u, t⟩ := a
    rintro ⟨⟨a1, a2, a3, a4, a5, a6⟩, h3⟩
    exact ⟨⟨a1, by omega, by rw [gh_old (by omega)]; exact a3, a4, by omega, a6⟩, ih h3⟩
theorem bok_new (hb : bok g N β) : bl β N = -1 := by
  by_cases q : bl β N = -1
  · exact q
  · have := bok_at hb q
    omega
/-- from what has been made to nodes -/
theorem mkd_cT {σ1 : jS} {h : Int} {ps : List Int} (c : cT σ g N β) (m : mkd bF σ σ1 N (if h = -1 then 104 else h) (if h = -1 then 1 else pN h) (if h = -1 then [-1] else ps)) (hh : h = -1 ∨ (0 ≤ h ∧ h < 104)) (hps : ∀ k, k < pN h → 0 ≤ ps.getD k 0 ∧ ps.getD k 0 < N) (hN : N + 1 ≤ 40000) (hz : zu g N + (if h = -1 then 1 else 0) ≤ 20000) : cT σ1 (gset g N h ps) (N + 1) β := by
  obtain ⟨⟨c1, c2, c3, c4, c5, c6, c7, ⟨c8, c8b, c8c, c8d⟩, c9, c10, c11, c12, ⟨c13, c13b⟩, c14⟩, c15⟩ := c
  obtain ⟨m1, m2, m3, m4, m5, m6, m7, m8⟩ := m
  refine ⟨?_, m8⟩
  unfold cT0
  rw [m1.nrs 9001 0 (by decide) (by decide), m1.nraf 9006 0 (by decide) (by decide), m1.nrl 9006 0 (by decide) (by decide)]
  refine ⟨c1.cq m1, zok_set c2 hh hps, bok_set c3, m2, by omega, hN, by rw [zu_set c5]; exact hz, m3, c9, fun i i0 i1 => ?_, fun i i0 i1 k hk => ?_, fun i i0 i1 hi => ?_, ⟨c13, c13b⟩, c14⟩
  · by_cases q : i = N
    · rw [q, m5]
      unfold sg
      rw [gh_new]
    · rw [m4 i i0 (by omega), c10 i i0 (by omega)]
      unfold sg
      rw [gh_old q]
  · by_cases q : i = N
    · rw [q, gh_new] at hk
      by_cases q2 : h = -1
      · rw [q2] at hk; exact absurd hk (Nat.not_lt_zero k)
      · rw [if_neg q2, if_neg q2] at m7
        rw [q, gp_new, m7 k hk]
    · rw [gh_old q] at hk
      have := pN_3 c2 i0 (show i < N by omega)
      rw [gp_old q, m6 _ (by omega) (by omega)]
      exact c11 i i0 (by omega) k hk
  · by_cases q : i = N
    · rw [q, gh_new] at hi
      rw [if_pos hi, if_pos hi] at m7
      have := m7 0 (by omega)
      rw [q, show N * 3 = N * 3 + ((0 : Nat) : Int) by omega, this, bok_new c3]
      rfl
    · rw [gh_old q] at hi
      rw [m6 _ (by omega) (by omega)]
      exact c12 i i0 (by omega) hi
theorem c_make51 {Q : Int → jS → Prop} (hn : 1 ≤ n) (h4 : rs σ 9000 0 = N) (h5 : 0 ≤ N) (hN : N + 1 ≤ 40000) (hS : N + 1 ≤ rl σ 9003 0 ∧ gr2 (rl σ 9003 0) ∧ rl σ 9004 0 = rl σ 9003 0 ∧ rl σ 9005 0 = 3 * rl σ 9003 0) (hm : mk0 σ) (hq : ∀ σ1, mkd mkF σ σ1 N s 1 [-1] → Q N σ1) : J n c_Terms_make (some .int) 51 [some (jo 9 0), some (ji s), none] [] σ (qI Q) := by
  refine wp_Terms_make_51 ⟨by omega, by omega, ?_⟩
  rw [h4, if_pos (by omega)]
  refine ⟨⟨by omega, by omega⟩, fun s4 e4 => ?_⟩
  have f4 : sq mkF σ s4 := by rw [e4]; exact (sq.rf _ σ).pws 9000 0 _ (by decide)
  rw [f4.nrl 9003 0]
  refine ⟨by omega, h5, by omega, fun s6 e6 => ⟨hn, ?_⟩⟩
  have f6 : sq mkF σ s6 := by rw [e6]; exact f4.pwa 9003 0 _ _ (by decide)
  have r0 : rs s6 9000 0 = N + 1 := by rw [e6, e4]; show rs (ws σ 9000 0 (N + 1)) 9000 0 = _; rw [rs_ws, if_pos ⟨rfl, rfl⟩]
  refine c_setPart0 (N := N + 1) (k := 0) r0 hN (by rw [f6.nrl 9005 0]; omega) h5 (by omega) (by omega) ?_
  have f7 : sq mkF σ (wa s6 9005 0 (N * 3 + ((0 : Nat) : Int)) (-1)) := f6.pwa 9005 0 _ _ (by decide)
  have a3 : ra (wa s6 9005 0 (N * 3 + ((0 : Nat) : Int)) (-1)) 9003 0 = upI (ra σ 9003 0) N s := by
    rw [show ra (wa s6 9005 0 (N * 3 + ((0 : Nat) : Int)) (-1)) 9003 0 = ra s6 9003 0 from rfl, e6, e4]
    rfl
  have a5 : ra (wa s6 9005 0 (N * 3 + ((0 : Nat) : Int)) (-1)) 9005 0 = upI (ra σ 9005 0) (N * 3 + ((0 : Nat) : Int)) (-1) := by
    rw [e6, e4]
    rfl
  have a4 : ra (wa s6 9005 0 (N * 3 + ((0 : Nat) : Int)) (-1)) 9004 0 = ra σ 9004 0 := by
    rw [e6, e4]
    rfl
  refine hq _ ⟨f7.cq (by decide), r0, ?_, fun i i0 i1 => ?_, ?_, fun i i0 i1 => ?_, fun i hi => ?_, ?_⟩
  · rw [f7.nrl 9003 0, f7.nrl 9004 0, f7.nrl 9005 0]; exact hS
  · rw [a3]; unfold upI; rw [if_neg (by omega)]
  · rw [a3]; unfold upI; rw [if_pos rfl]
  · rw [a5]; unfold upI; rw [if_neg (by omega)]
  · have : i = 0 := by omega
    subst this
    rw [a5]; unfold upI; rw [if_pos rfl]; rfl
  · unfold mk0
    rw [a4, f7.nrl 9004 0]
    exact hm
theorem mkd.pre {σ0 σ1 : jS} {k : Nat} {ps : List Int} (e : cq mkF σ σ0) (h3 : ∀ i, 0 ≤ i → i < N → ra σ0 9003 0 i = ra σ 9003 0 i) (h5 : ∀ i, 0 ≤ i → i < N * 3 → ra σ0 9005 0 i = ra σ 9005 0 i) (m : mkd mkF σ0 σ1 N s k ps) : mkd mkF σ σ1 N s k ps := by
  obtain ⟨m1, m2, m3, m4, m5, m6, m7, m8⟩ := m
  exact ⟨e.tr m1, m2, m3, fun i i0 i1 => (m4 i i0 i1).trans (h3 i i0 i1), m5, fun i i0 i1 => (m6 i i0 i1).trans (h5 i i0 i1), m7, m8⟩
theorem c_make {Q : Int → jS → Prop} (hn : 3 ≤ n) (h : cT σ g N β) (hN : N + 1 ≤ 40000) (hq : ∀ σ1, mkd mkF σ σ1 N s 1 [-1] → Q N σ1) : TrI n i_Terms_make [jo 9 0, ji s] σ Q := by
  obtain ⟨⟨c1, c2, c3, c4, c5, c6, c7, ⟨c8, c8b, c8c, c8d⟩, c9, c10, c11, c12, ⟨c13, c13b⟩, c14⟩, c15⟩ := h
  have hpos : 256 ≤ rl σ 9003 0 := by unfold gr2 at c8b; omega
  refine wp_Terms_make ⟨by omega, by omega, ?_⟩
  rw [c4]
  by_cases q : N = rl σ 9003 0
  · have hle : rl σ 9003 0 ≤ 32768 := by unfold gr2 at c8b; omega
    rw [if_neg (fun w => w q)]
    refine ⟨by omega, t_grown (by omega) rfl (by decide) (by omega) (by omega) (by omega) (fun sa ha => ?_)⟩
    rw [if_pos ⟨rfl, rfl⟩]
    intro s8 e8
    have g1 := ha s8 e8
    have q1 := (g1.cq (by decide) (by omega) (lens_grw g1 (by decide)) (by decide) (fun w => absurd w (by decide)) (fun _ => by unfold gr2 at c8b; omega)).mo (l' := mkF) (by decide)
    have k4 : rl s8 9004 0 = rl σ 9004 0 := (g1.2.1 9004 0 (by decide) (by decide)).2
    have k5 : rl s8 9005 0 = rl σ 9005 0 := (g1.2.1 9005 0 (by decide) (by decide)).2
    refine ⟨by omega, t_grown (by omega) rfl (by decide) (by omega) (by omega) (by omega) (fun sb hb => ?_)⟩
    rw [if_pos ⟨rfl, rfl⟩]
    intro s15 e15
    have g2 := hb s15 e15
    have q2 := (g2.cq (by decide) (by omega) (lens_grw g2 (by decide)) (by decide) (fun w => absurd w (by decide)) (fun _ => by unfold gr2 at c8b; omega)).mo (l' := mkF) (by decide)
    have k5b : rl s15 9005 0 = rl σ 9005 0 := (g2.2.1 9005 0 (by decide) (by decide)).2.trans k5
    refine ⟨by omega, t_grown (by omega) rfl (by decide) (by omega) (by omega) (by omega) (fun sc hc => ?_)⟩
    rw [if_pos ⟨rfl, rfl⟩]
    intro s22 e22
    have g3 := hc s22 e22
    have q3 := (g3.cq (by decide) (by omega) (lens_grw g3 (by decide)) (by decide) (fun w => absurd w (by decide)) (fun _ => by unfold gr2 at c8b; omega)).mo (l' := mkF) (by decide)
    have l3 : rl s22 9003 0 = rl σ 9003 0 * 2 := by
      rw [(g3.2.1 9003 0 (by decide) (by decide)).2, (g2.2.1 9003 0 (by decide) (by decide)).2]
      exact g1.2.2.1
    have l4 : rl s22 9004 0 = rl σ 9004 0 * 2 := by
      rw [(g3.2.1 9004 0 (by decide) (by decide)).2, g2.2.2.1, k4]
    have l5 : rl s22 9005 0 = rl σ 9005 0 * 2 := by
      rw [g3.2.2.1, k5b]
    have r3 : ra s22 9003 0 = ra s8 9003 0 := by rw [(g3.2.1 9003 0 (by decide) (by decide)).1, (g2.2.1 9003 0 (by decide) (by decide)).1]
    have r4 : ra s22 9004 0 = ra s15 9004 0 := (g3.2.1 9004 0 (by decide) (by decide)).1
    have r4b : ra s8 9004 0 = ra σ 9004 0 := (g1.2.1 9004 0 (by decide) (by decide)).1
    have r5 : ra s15 9005 0 = ra σ 9005 0 := ((g2.2.1 9005 0 (by decide) (by decide)).1).trans (g1.2.1 9005 0 (by decide) (by decide)).1
    refine c_make51 (by omega) (by rw [g3.1, g2.1, g1.1]; exact c4) c5 hN ⟨by omega, by unfold gr2 at c8b ⊢; omega, by omega, by omega⟩ (fun i i0 i1 => ?_) (fun σ1 m => hq σ1 (m.pre ((q1.tr q2).tr q3) (fun i i0 i1 => ?_) (fun i i0 i1 => ?_)))
    · rw [r4]
      by_cases w : i < rl s8 9004 0
      · rw [g2.2.2.2.1 i i0 w, r4b]
        exact c15 i i0 (by omega)
      · exact g2.2.2.2.2.1 i (by omega)
    · rw [r3]
      exact g1.2.2.2.1 i i0 (by omega)
    · rw [g3.2.2.2.1 i i0 (by omega), r5]
  · rw [if_pos q]
    exact c_make51 (by omega) c4 c5 hN ⟨by omega, c8b, c8c, c8d⟩ c15 hq
theorem mkd.mo {σ1 : jS} {k : Nat} {ps : List Int} (m : mkd mkF σ σ1 N s k ps) : mkd bF σ σ1 N s k ps := by
  obtain ⟨m1, m2⟩ := m
  exact ⟨m1.mo (by decide), m2⟩
end ZN
