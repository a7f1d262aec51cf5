/-! How many values: the reference, the next given one. -/
def vmF : List (Nat × Int) := [(1135, 0), (1136, 0), (1137, 0), (1138, 0), (1139, 0), (1140, 0), (1141, 0), (1142, 0), (1143, 0)] ++ (lF ++ uF)
def vmR : List Nat := [1135, 1136, 1137, 1139, 1140, 1141, 1142, 1143]
/-- rows below a level stay -/
def vq9 (l : Nat) (N : Int) (σ σ' : jS) : Prop := sq vmF σ σ' ∧ (∀ F, F ∈ vmR → ∀ z : Int, z < ((l : Nat) : Int) → ra σ' F 0 z = ra σ F 0 z) ∧ (∀ z : Int, z < 4 * ((l : Nat) : Int) → ra σ' 1138 0 z = ra σ 1138 0 z) ∧ kpp σ σ' N
section ZVh
variable {n l : Nat} {σ σ1 σ2 : jS} {g g' : zH} {N N' may k x p : Int} {β new β' : List (Int × Int)} {T : zT} {r L : List Int}
theorem vq9.rf (l : Nat) (N : Int) (σ : jS) : vq9 l N σ σ := ⟨sq.rf _ σ, fun _ _ _ _ => rfl, fun _ _ => rfl, kpp.rf _ _⟩
theorem vq9.tr (h : vq9 l N σ σ1) (h' : vq9 l N σ1 σ2) : vq9 l N σ σ2 := ⟨h.1.tr h'.1, fun F hF z hz => (h'.2.1 F hF z hz).trans (h.2.1 F hF z hz), fun z hz => (h'.2.2.1 z hz).trans (h.2.2.1 z hz), h.2.2.2.tr h'.2.2.2 (Int.le_refl _)⟩
theorem vq9.up {l' : Nat} (h : vq9 l' N' σ σ1) (hl : l ≤ l') (hN : N ≤ N') : vq9 l N σ σ1 := ⟨h.1, fun F hF z hz => h.2.1 F hF z (by omega), fun z hz => h.2.2.1 z (by omega), fun m m0 m1 => h.2.2.2 m m0 (by omega)⟩
theorem vq9.of {ls : List (Nat × Int)} (e : sq ls σ σ1) (h1 : (ls.all (fun p => vmF.contains p)) = true) (h2 : (([(1135, 0), (1136, 0), (1137, 0), (1138, 0), (1139, 0), (1140, 0), (1141, 0), (1142, 0), (1143, 0)] : List (Nat × Int)).all (fun p => !ls.contains p)) = true) (hk : kpp σ σ1 N) : vq9 l N σ σ1 := by
  have hm : ∀ p, p ∈ ([(1135, 0), (1136, 0), (1137, 0), (1138, 0), (1139, 0), (1140, 0), (1141, 0), (1142, 0), (1143, 0)] : List (Nat × Int)) → ls.contains p = false := fun p hp => by
    have := List.all_eq_true.mp h2 p hp
    simpa using this
  refine ⟨e.mo h1, fun F hF z _ => e.nra F 0 z (hm _ ?_), fun z _ => e.nra 1138 0 z (hm _ (by decide)), hk⟩
  have : ∀ F, F ∈ vmR → (F, (0 : Int)) ∈ ([(1135, 0), (1136, 0), (1137, 0), (1138, 0), (1139, 0), (1140, 0), (1141, 0), (1142, 0), (1143, 0)] : List (Nat × Int)) := by decide
  exact this F hF
theorem vq9.w {F : Nat} {i v : Int} (h : vq9 l N σ σ1) (hF : F ∈ vmR) (hi : ((l : Nat) : Int) ≤ i) : vq9 l N σ (wa σ1 F 0 i v) := by
  have hc : ∀ F, F ∈ vmR → vmF.contains (F, 0) = true := by decide
  have hd : ∀ F, F ∈ vmR → ¬ F = 1138 ∧ ¬ F = 1029 := by decide
  refine ⟨h.1.pwa F 0 _ _ (hc F hF), fun G hG z hz => ?_, fun z hz => ?_, fun m m0 m1 => ?_⟩
  · unfold wa
    rw [raf_wA]
    by_cases q : G = F ∧ (0 : Int) = 0
    · rw [if_pos q]
      unfold upI
      rw [if_neg (by omega), ← q.1]
      exact h.2.1 G hG z hz
    · rw [if_neg q]
      exact h.2.1 G hG z hz
  · unfold wa
    rw [raf_wA, if_neg (fun w => (hd F hF).1 w.1.symm)]
    exact h.2.2.1 z hz
  · unfold wa
    rw [raf_wA, if_neg (fun w => (hd F hF).2 w.1.symm)]
    exact h.2.2.2 m m0 m1
theorem vq9.w8 {i v : Int} (h : vq9 l N σ σ1) (hi : 4 * ((l : Nat) : Int) ≤ i) : vq9 l N σ (wa σ1 1138 0 i v) := by
  have hd : ∀ F, F ∈ vmR → ¬ F = 1138 := by decide
  refine ⟨h.1.pwa 1138 0 _ _ (by decide), fun G hG z hz => ?_, fun z hz => ?_, fun m m0 m1 => ?_⟩
  · unfold wa
    rw [raf_wA, if_neg (fun w => hd G hG w.1)]
    exact h.2.1 G hG z hz
  · unfold wa
    rw [raf_wA, if_pos ⟨rfl, rfl⟩]
    unfold upI
    rw [if_neg (by omega)]
    exact h.2.2.1 z hz
  · unfold wa
    rw [raf_wA, if_neg (by omega)]
    exact h.2.2.2 m m0 m1
theorem wav9 {F : Nat} {i v : Int} : ra (wa σ F 0 i v) F 0 i = v := by
  unfold wa
  rw [raf_wA, if_pos ⟨rfl, rfl⟩]
  unfold upI
  rw [if_pos rfl]
theorem wan9 {F G : Nat} {i v z : Int} (h : ¬ G = F ∨ ¬ z = i) : ra (wa σ F 0 i v) G 0 z = ra σ G 0 z := by
  unfold wa
  rw [raf_wA]
  by_cases q : G = F ∧ (0 : Int) = 0
  · rw [if_pos q]
    unfold upI
    rw [if_neg (h.resolve_left (fun w => w q.1)), q.1]
  · rw [if_neg q]
/-- the NEEDS of a given one are laid -/
theorem t_vNs {Q : Int → jS → Prop} {rt : Int} (hn : 3 ≤ n) (hT : tok T) (k0 : 0 ≤ k) (k1 : k < tG T) (hl4 : l < 4) :
    ∀ (j i : Nat) (g : zH) (N : Int) (vs : Int → Int) (σ1 : jS), ((i + j : Nat) : Int) = tN T k → mT σ1 g N β → mV σ1 vs → vok g N vs → mTx σ1 T → N + 12 * (j : Nat) ≤ 40000 → rs σ1 1034 0 + 12 * (j : Nat) ≤ 40000 → zu g N + unu vs ≤ 20000 → (∀ σ2, mT σ2 (layNs T k j (i + 1) g N vs).1 (layNs T k j (i + 1) g N vs).2.1 β → sq ((1138, 0) :: lF) σ1 σ2 → kpp σ1 σ2 N → rs σ2 1034 0 ≤ rs σ1 1034 0 + 12 * (j : Nat) → (∀ i' : Nat, i' < j → ra σ2 1138 0 (4 * ((l : Nat) : Int) + ((i : Nat) : Int) + ((i' : Nat) : Int)) = (layNs T k j (i + 1) g N vs).2.2.2.getD i' 0) → (∀ z, z < 4 * ((l : Nat) : Int) + ((i : Nat) : Int) → ra σ2 1138 0 z = ra σ1 1138 0 z) → J n c_Model_nextGiven (some .boolean) 94 [some (jo 1 0), some (ji (l : Nat)), some (ji may), some (ji k), some (ji rt), some (ji (tN T k + 1))] [] σ2 (qI Q)) → J n c_Model_nextGiven (some .boolean) 94 [some (jo 1 0), some (ji (l : Nat)), some (ji may), some (ji k), some (ji rt), some (ji (((i : Nat) : Int) + 1))] [] σ1 (qI Q) := by
  intro j
  induction j with
  | zero =>
    intro i g N vs σ1 hi h hV hv hx hN hp hz hq
    rw [show ((i : Nat) : Int) + 1 = tN T k + 1 by omega]
    exact hq σ1 h (sq.rf _ σ1) (kpp.rf _ _) (by omega) (fun i' hi' => absurd hi' (Nat.not_lt_zero i')) (fun _ _ => rfl)
  | succ j ih =>
    intro i g N vs σ1 hi h hV hv hx hN hp hz hq
    have hG := hT.2.2.2.1
    have hgk := hT.2.2.2.2.2 k k0 k1
    obtain ⟨r1, r2, r3⟩ := hgk.2.2.2.2 (i + 1) (by omega)
    have l10 := mln_at h.1 1010 24 (by decide)
    have l11 := mln_at h.1 1011 1440 (by decide)
    have l12 := mln_at h.1 1012 120 (by decide)
    have l83 := mln_at h.1 1138 16 (by decide)
    have e10 := (hx.2.2.2.2.1 k k0 k1).2.1
    have e12 := (hx.2.2.2.2.1 k k0 k1).2.2 (i + 1) (by omega)
    have hN4 := hgk.2.2.2.1
    refine wp_Model_nextGiven_94 ⟨by omega, by omega, k0, by omega, ?_⟩
    rw [e10, if_neg (by omega)]
    refine ⟨by omega, ⟨by omega, by omega⟩, ⟨by omega, by omega⟩, ⟨by omega, by omega⟩, by omega, wp_Model_layGiven ?_⟩
    rw [if_pos (by omega)]
    refine wp_Model_layGiven_8 ⟨by omega, by omega, ⟨by omega, by omega⟩, ⟨by omega, by omega⟩, ⟨by omega, by omega⟩, by omega, by omega, by omega, by omega, ?_⟩
    rw [show 5 * k + (((i : Nat) : Int) + 1) = 5 * k + ((i + 1 : Nat) : Int) by omega, e12.1]
    refine t_layRow (by omega) h hV hv rfl rfl (by decide) (by omega) (by omega) e12.2 r2 r1 (by omega) (by omega) hz (by omega) (by omega) (fun σ2 hl => ?_)
    obtain ⟨a1, a2, a3, a4, a5, a6, a7, a8⟩ := hl
    have hrt := lay_root a8 r1
    obtain ⟨b1, b2, -, b4, b5, -, -, -, -, -, -, b12, -⟩ := a8
    rw [a3.nrl 1138 0, l83]
    refine ⟨by omega, by omega, fun s20 e20 => ⟨⟨by omega, by omega⟩, ?_⟩⟩
    have f20 : sq [(1138, 0)] σ2 s20 := by rw [e20]; exact (sq.rf _ σ2).pwa 1138 0 _ _ (by decide)
    have r20 : ra s20 1138 0 = upI (ra σ2 1138 0) (4 * ((l : Nat) : Int) + (((i : Nat) : Int) + 1) - 1) ((layR (tR T k (i + 1)) g N vs).2.2.2.headD 0) := by
      rw [e20]
      unfold wa
      rw [raf_wA, if_pos ⟨rfl, rfl⟩]
    have e34 : rs s20 1034 0 = rs σ2 1034 0 := f20.nrs 1034 0 (by decide)
    have e83 : ra σ2 1138 0 = ra σ1 1138 0 := a3.nraf 1138 0 (by decide)
    have hpl : rs σ2 1034 0 ≤ rs σ1 1034 0 + 12 := by omega
    rw [show ((i : Nat) : Int) + 1 + 1 = ((i + 1 : Nat) : Int) + 1 by omega]
    refine ih (i + 1) _ _ _ s20 (by omega) (a1.sq f20 (by decide)) (fun v v0 v1 => by rw [f20.nraf 1036 0 (by decide)]; exact a2 v v0 v1) b5 ((hx.sq a3 (by decide)).sq f20 (by decide)) (by omega) (by omega) (by omega) (fun σ3 c1 c2 c3 c4 c5 c6 => hq σ3 c1 (((a3.mo (by decide)).tr (f20.mo (by decide))).tr c2) (((a4.tr (kpp.of f20 (by decide)) (Int.le_refl _))).tr c3 (by omega)) (by omega) (fun i' hi' => ?_) (fun z hz2 => ?_))
    · cases i' with
      | zero =>
        rw [c6 _ (by omega), r20]
        unfold upI
        rw [if_pos (by omega)]
        rfl
      | succ i' =>
        have := c5 i' (by omega)
        rw [show 4 * ((l : Nat) : Int) + ((i : Nat) : Int) + ((i' + 1 : Nat) : Int) = 4 * ((l : Nat) : Int) + ((i + 1 : Nat) : Int) + ((i' : Nat) : Int) by omega, this]
        rfl
    · rw [c6 z (by omega), r20]
      unfold upI
      rw [if_neg (by omega), e83]
/-- what nextGiven leaves at a level -/
def vMk (σ : jS) (l : Nat) (g : zH) (N : Int) (β : List (Int × Int)) (p : Int) : Prop := ra σ 1139 0 ((l : Nat) : Int) = ((β.length : Nat) : Int) ∧ ra σ 1140 0 ((l : Nat) : Int) = N ∧ ra σ 1141 0 ((l : Nat) : Int) = p ∧ pbd σ g N p
theorem t_vback {Q : jS → Prop} (hn : 2 ≤ n) (h : mT σ g' N' (new ++ β)) (hM : vMk σ l g N β p) (hl4 : l < 4) (ha : agr g g' N) (hN : N ≤ N') (h0 : 0 ≤ N) (hz : zok g N) (hb : bok g N β) (hu : zu g N ≤ 20000) (p0 : 0 ≤ p) (p1 : p ≤ 40000)
    (hq : ∀ σ1, mT σ1 g N β → sq [(1030, 0), (1035, 0), (1033, 0), (1034, 0)] σ σ1 → rs σ1 1034 0 = p → Q σ1) : TrV n i_Model_backValue [jo 1 0, ji (l : Nat)] σ Q := by
  obtain ⟨m84, m85, m86, hp⟩ := hM
  have l84 := mln_at h.1 1139 4 (by decide)
  have l85 := mln_at h.1 1140 4 (by decide)
  have l86 := mln_at h.1 1141 4 (by decide)
  refine wp_Model_backValue ⟨by omega, by omega, by omega, by omega, by omega, ?_⟩
  rw [m84]
  refine wp_Model_untie (t_untie new σ h (fun σ2 m1 m2 => ?_))
  rw [m2.nrl 1140 0, l85]
  refine ⟨by omega, by omega, fun s10 e10 => ?_⟩
  have f10 : sq [(1030, 0), (1035, 0), (1033, 0), (1034, 0)] σ s10 := by rw [e10]; exact (m2.mo (by decide)).pws 1033 0 _ (by decide)
  rw [f10.nrl 1141 0, l86]
  refine ⟨by omega, by omega, fun s13 e13 => ?_⟩
  have f13 : sq [(1030, 0), (1035, 0), (1033, 0), (1034, 0)] σ s13 := by rw [e13]; exact f10.pws 1034 0 _ (by decide)
  have e13' : s13 = ws (ws σ2 1033 0 N) 1034 0 p := by
    rw [e13, f10.nra 1141 0 _ (by decide), m86, e10, m2.nra 1140 0 _ (by decide), m85]
  have t13 : mT s13 g N β := by
    rw [e13']
    exact mT_low2 m1 ha hN h0 hz hb hu (hp.k (kpp.of m2 (by decide))) p0 p1
  exact hq s13 t13 f13 (by rw [e13', rs_ws, if_pos ⟨rfl, rfl⟩])
end ZVh
