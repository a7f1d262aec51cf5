/-! The class lays a row of things. -/
def cc (t : Int) : Int := if t < 0 then 103 - t else t
/-- what a Flat holds -/
def fT (σ : jS) (o : Int) (r : List Int) : Prop := 0 ≤ o ∧ rs σ 1 o = (r.length : Nat) ∧ (r.length : Nat) ≤ rl σ 0 o ∧ ∀ i : Nat, i < r.length → ra σ 0 o i = cc (r.getD i 0)
def cV (σ : jS) (vs : Int → Int) : Prop := ∀ v, 0 ≤ v → v < 26 → ra σ 9010 0 v = vs v
theorem notin2 {l : List (Nat × Int)} (hl : (l.all (fun p => decide (2 ≤ p.1))) = true) {F : Nat} (hF : F < 2) (o : Int) : (l.contains (F, o)) = false := by
  cases q : l.contains (F, o) with
  | false => rfl
  | true =>
    have := of_decide_eq_true (List.all_eq_true.mp hl _ (List.contains_iff_mem.mp q))
    dsimp only at this
    omega
theorem fT.cq {σ σ1 : jS} {o : Int} {r : List Int} {l : List (Nat × Int)} (h : fT σ o r) (e : cq l σ σ1) (hl : (l.all (fun p => decide (2 ≤ p.1))) = true) : fT σ1 o r := by
  unfold fT
  rw [e.nrs 1 o (by decide) (notin2 hl (by decide) o), e.nraf 0 o (by decide) (notin2 hl (by decide) o), e.nrl 0 o (by decide) (notin2 hl (by decide) o)]
  exact h
theorem fT.sq {σ σ1 : jS} {o : Int} {r : List Int} {l : List (Nat × Int)} (h : fT σ o r) (e : sq l σ σ1) (hl : (l.all (fun p => decide (2 ≤ p.1))) = true) : fT σ1 o r := by
  unfold fT
  rw [e.nrs 1 o (notin2 hl (by decide) o), e.nraf 0 o (notin2 hl (by decide) o), e.nrl 0 o]
  exact h
section ZB
variable {n : Nat} {σ : jS} {g : zH} {N : Int} {β : List (Int × Int)} {x u t o : Int} {vs : Int → Int} {r : List Int}
theorem c_at {Q : Int → jS → Prop} (h : fT σ o r) {i : Nat} (hi : i < r.length) (hq : Q (cc (r.getD i 0)) σ) : TrI n i_Flat_at [jo 0 o, ji (i : Nat)] σ Q := by
  obtain ⟨h1, h2, h3, h4⟩ := h
  refine wp_Flat_at ?_
  rw [if_neg (by omega), if_neg (by omega), if_neg (by omega), h4 i hi]
  exact ⟨h1, by omega, by omega, by omega, hq⟩
theorem c_fill {Q : jS → Prop} {F : Nat} {v : Int} (hj : jt F = 0) (hs : ¬ F = jscr) (hl : 0 ≤ rl σ F o ∧ rl σ F o ≤ 100000) (hq : ∀ σ1, sq [(F, o)] σ σ1 → (∀ i, 0 ≤ i → i < rl σ F o → ra σ1 F o i = v) → Q σ1) : TrV n i_Arrays_fill [ja F o, ji v] σ Q := by
  have loop : ∀ (j k : Nat) (σ1 : jS), ((k + j : Nat) : Int) = rl σ F o → sq [(F, o)] σ σ1 → (∀ i : Int, 0 ≤ i → i < (k : Nat) → ra σ1 F o i = v) → J n c_Arrays_fill none 5 [some (ja F o), some (ji v), some (ji (k : Nat)), some (ji (rl σ F o))] [] σ1 (qV Q) := by
    intro j
    induction j with
    | zero =>
      intro k σ1 hk f1 f2
      refine wp_Arrays_fill_5 ?_
      rw [if_pos (by omega)]
      exact hq σ1 f1 (fun i i0 i1 => f2 i i0 (by omega))
    | succ j ih =>
      intro k σ1 hk f1 f2
      refine wp_Arrays_fill_5 ?_
      rw [if_neg (by omega), f1.nrl F o]
      refine ⟨hj, hs, by omega, by omega, fun s e => ⟨⟨by omega, by omega⟩, ?_⟩⟩
      refine ih (k + 1) s (by omega) (by rw [e]; exact f1.pwa F o _ _ (List.contains_iff_mem.mpr List.mem_cons_self)) (fun i i0 i1 => ?_)
      have : ra s F o = upI (ra σ1 F o) (k : Nat) v := by
        rw [e]
        unfold wa
        rw [raf_wA, if_pos ⟨rfl, rfl⟩]
      rw [this]
      unfold upI
      by_cases q : i = (k : Nat)
      · rw [if_pos q]
      · rw [if_neg q]; exact f2 i i0 (by omega)
  refine wp_Arrays_fill ⟨by omega, ?_⟩
  obtain ⟨m, hm⟩ := Int.eq_ofNat_of_zero_le hl.1
  exact loop m 0 σ (by rw [Nat.zero_add]; exact hm.symm) (sq.rf _ σ) (fun i i0 i1 => absurd i1 (by omega))
theorem c_unk {Q : Int → jS → Prop} (hn : 4 ≤ n) (h : cT σ g N β) (hV : cV σ vs) (hN : N + 1 ≤ 40000) (hz : zu g N + (if vs (-1 - t) = -1 then 1 else 0) ≤ 20000) (ht : -26 ≤ t ∧ t < 0) (hvs : vs (-1 - t) = -1 ∨ 0 ≤ vs (-1 - t)) (hq : ∀ σ1, cq bF σ σ1 → rs σ1 9012 0 = rs σ 9012 0 → ra σ1 9008 0 = ra σ 9008 0 → (if vs (-1 - t) = -1 then cT σ1 (gset g N (-1) []) (N + 1) β ∧ cV σ1 (upI vs (-1 - t) N) else cT σ1 g N β ∧ cV σ1 vs) → Q (if vs (-1 - t) = -1 then N else vs (-1 - t)) σ1) : TrI n i_Terms_unknown [jo 9 0, ji (-1 - t)] σ Q := by
  have l10 := cln_at h.1.1 9010 0 26 (by decide)
  refine wp_Terms_unknown ?_
  rw [if_neg (by omega), if_pos (by omega), hV (-1 - t) (by omega) (by omega)]
  refine ⟨by omega, by omega, by omega, by omega, ?_⟩
  by_cases q : vs (-1 - t) = -1
  · rw [if_neg (fun w => w q)]
    rw [if_pos q] at hz
    refine ⟨by omega, c_make (by omega) h hN (fun σ1 m => ?_)⟩
    have l10' : rl σ1 9010 0 = 26 := by rw [m.1.nrl2 9010 0 (by decide) (by decide)]; exact l10
    refine ⟨by omega, fun s8 e8 => ?_⟩
    have f8 : sq [(9010, 0)] σ1 s8 := by rw [e8]; exact (sq.rf _ σ1).pwa 9010 0 _ _ (by decide)
    have a10 : ra s8 9010 0 = upI (ra σ1 9010 0) (-1 - t) N := by
      rw [e8]
      unfold wa
      rw [raf_wA, if_pos ⟨rfl, rfl⟩]
    rw [f8.nrl 9010 0, a10]
    refine ⟨by omega, by omega, ?_⟩
    have hc := mkd_cT (h := -1) (ps := []) h m.mo (Or.inl rfl) (fun k hk => absurd hk (Nat.not_lt_zero k)) hN hz
    have hh := hq s8 ((m.1.mo (by decide)).tr (f8.cq (by decide))) (by rw [f8.nrs 9012 0 (by decide), m.1.nrs 9012 0 (by decide) (by decide)]) (by rw [f8.nraf 9008 0 (by decide), m.1.nraf 9008 0 (by decide) (by decide)])
    rw [if_pos q, if_pos q] at hh
    have e9 : upI (ra σ1 9010 0) (-1 - t) N (-1 - t) = N := if_pos rfl
    rw [e9]
    refine hh ⟨hc.sq f8 (by decide), fun v v0 v1 => ?_⟩
    rw [a10]
    unfold upI
    rw [m.1.nraf 9010 0 (by decide) (by decide), hV v v0 v1]
  · rw [if_pos q]
    have hh := hq σ (cq.rf _ σ) rfl rfl
    rw [if_neg q, if_neg q] at hh
    exact hh ⟨h, hV⟩
end ZB
