/-! What is asked of Flats; NODES' rows. -/
theorem cc_neg {t : Int} (h : t < 0) : cc t = 103 - t := if_pos h
theorem cc_pos {t : Int} (h : ¬ t < 0) : cc t = t := if_neg h
theorem cc_inj {a b : Int} (ha : a < 104) (hb : b < 104) (h : cc a = cc b) : a = b := by
  unfold cc at h
  split at h <;> split at h <;> omega
theorem shr2 {t : Int} (h0 : 0 ≤ t) (h1 : t < 104) : bShr t 2 = t / 4 := by
  have key : ∀ m, m < 104 → bShr ((m : Nat) : Int) 2 = ((m / 4 : Nat) : Int) := by decide +kernel
  obtain ⟨m, rfl⟩ := Int.eq_ofNat_of_zero_le h0
  have := key m (by omega)
  rw [this]
  omega
section ZFl
variable {n : Nat} {σ : jS} {g : zH} {N : Int} {β E : List (Int × Int)} {x u t o o2 : Int} {r r2 : List Int}
/-- the first m of what a Flat holds -/
def fP (σ : jS) (o : Int) (r : List Int) : Prop := 0 ≤ o ∧ 0 ≤ rl σ 0 o ∧ min (rs σ 1 o) (rl σ 0 o) = (r.length : Nat) ∧ (∀ i : Nat, i < r.length → ra σ 0 o i = cc (r.getD i 0)) ∧ r.length ≤ 1000 ∧ ∀ t, t ∈ r → t < 104
theorem getD_mem {i : Nat} (h : i < r.length) : r.getD i 0 ∈ r := by
  show (r[i]?).getD 0 ∈ r
  rw [List.getElem?_eq_getElem h]
  exact List.getElem_mem h
theorem take_s {i : Nat} (h : i < r.length) : r.take (i + 1) = r.take i ++ [r.getD i 0] := by
  rw [List.take_succ]
  congr 1
  show (r[i]?).toList = [(r[i]?).getD 0]
  rw [List.getElem?_eq_getElem h]
  rfl
theorem c_cover {Q : Int → jS → Prop} (hn : 2 ≤ n) (h : fP σ o r) (hq : ∀ b, ltr b r → Q b σ) : TrI n i_Flat_cover [jo 0 o] σ Q := by
  obtain ⟨h1, h2, h3, h4, h5, h6⟩ := h
  have loop : ∀ (j i : Nat) (b : Int), i + j = r.length → ltr b (r.take i) → J n c_Flat_cover (some .int) 4 [some (jo 0 o), some (ji b), some (ji (i : Nat))] [] σ (qI Q) := by
    intro j
    induction j with
    | zero =>
      intro i b hi hb
      refine wp_Flat_cover_4 ⟨h1, by omega, wp_Flat_length ⟨h1, h2, by omega, ?_⟩⟩
      rw [h3, if_pos (by omega)]
      refine hq b ?_
      rw [List.take_of_length_le (by omega)] at hb
      exact hb
    | succ j ih =>
      intro i b hi hb
      have hir : i < r.length := by omega
      have hm := h6 _ (getD_mem hir)
      refine wp_Flat_cover_4 ⟨h1, by omega, wp_Flat_length ⟨h1, h2, by omega, ?_⟩⟩
      rw [h3, if_neg (by omega), h4 i hir]
      refine ⟨h2, by omega, by omega, ?_⟩
      by_cases q : r.getD i 0 < 0
      · rw [cc_neg q, if_pos (by omega)]
        refine ⟨⟨by omega, by omega⟩, ih (i + 1) b (by omega) ?_⟩
        rw [take_s hir]
        exact ltr_neg hb q
      · rw [cc_pos q, if_neg (by omega), shr2 (by omega) hm]
        refine ⟨⟨by omega, by omega⟩, ih (i + 1) _ (by omega) ?_⟩
        rw [take_s hir]
        exact ltr_up hb (by omega) hm
  exact wp_Flat_cover (loop r.length 0 0 (by omega) ltr_nil)
theorem c_isClosed {Q : Int → jS → Prop} (hn : 2 ≤ n) (h : fP σ o r) (hs : rs σ 1 o ≤ rl σ 0 o) (hq : Q (if clsd r = true then 1 else 0) σ) : TrI n i_Flat_isClosed [jo 0 o] σ Q := by
  obtain ⟨h1, h2, h3, h4, h5, h6⟩ := h
  have loop : ∀ (j i : Nat), i + j = r.length → (∀ t, t ∈ r.take i → 0 ≤ t) → J n c_Flat_isClosed (some .boolean) 2 [some (jo 0 o), some (ji (i : Nat))] [] σ (qI Q) := by
    intro j
    induction j with
    | zero =>
      intro i hi hb
      refine wp_Flat_isClosed_2 ⟨h1, by omega, wp_Flat_length ⟨h1, h2, by omega, ?_⟩⟩
      rw [h3, if_pos (by omega), if_neg (by omega)]
      refine ⟨h2, ?_⟩
      rw [List.take_of_length_le (by omega)] at hb
      have : clsd r = true := List.all_eq_true.mpr (fun t ht => decide_eq_true (hb t ht))
      rw [if_pos this] at hq
      exact hq
    | succ j ih =>
      intro i hi hb
      have hir : i < r.length := by omega
      have hm := h6 _ (getD_mem hir)
      refine wp_Flat_isClosed_2 ⟨h1, by omega, wp_Flat_length ⟨h1, h2, by omega, ?_⟩⟩
      rw [h3, if_neg (by omega), h4 i hir]
      refine ⟨h2, by omega, by omega, ?_⟩
      by_cases q : r.getD i 0 < 0
      · rw [cc_neg q, if_neg (by omega)]
        have : ¬ clsd r = true := fun w => by
          have := of_decide_eq_true (List.all_eq_true.mp w _ (getD_mem hir))
          omega
        rw [if_neg this] at hq
        exact hq
      · rw [cc_pos q, if_pos hm]
        refine ⟨⟨by omega, by omega⟩, ih (i + 1) (by omega) (fun t ht => ?_)⟩
        rw [take_s hir] at ht
        rcases List.mem_append.mp ht with w | w
        · exact hb t w
        · have : t = r.getD i 0 := by simpa using w
          omega
  exact wp_Flat_isClosed (loop r.length 0 (by omega) (fun t ht => by simp at ht))
theorem fT.fP {r : List Int} (h : fT σ o r) (hl : r.length ≤ 1000) (ht : ∀ t, t ∈ r → t < 104) : fP σ o r := ⟨h.1, by have := h.2.2.1; omega, by have := h.2.1; have := h.2.2.1; omega, h.2.2.2, hl, ht⟩
theorem c_isSame {Q : Int → jS → Prop} (hn : 1 ≤ n) (h : fT σ o r) (h' : fT σ o2 r2) (hl : r.length ≤ 1000) (hl2 : r2.length ≤ 1000) (ht : ∀ t, t ∈ r → t < 104) (ht2 : ∀ t, t ∈ r2 → t < 104) (hq : Q (if r = r2 then 1 else 0) σ) : TrI n i_Flat_isSame [jo 0 o, jo 0 o2] σ Q := by
  have loop : ∀ (j i : Nat), r.length = r2.length → i + j = r.length → r.take i = r2.take i → J n c_Flat_isSame (some .boolean) 15 [some (jo 0 o), some (jo 0 o2), some (ji (i : Nat))] [] σ (qI Q) := by
    intro j
    induction j with
    | zero =>
      intro i he hi hb
      refine wp_Flat_isSame_15 ⟨h.1, ?_⟩
      rw [if_pos (by have := h.2.1; omega)]
      rw [List.take_of_length_le (by omega), List.take_of_length_le (by omega)] at hb
      rw [if_pos hb] at hq
      exact hq
    | succ j ih =>
      intro i he hi hb
      have hir : i < r.length := by omega
      have hir2 : i < r2.length := by omega
      refine wp_Flat_isSame_15 ⟨h.1, ?_⟩
      rw [if_neg (by have := h.2.1; omega)]
      refine ⟨hn, c_at h hir ⟨h'.1, c_at h' hir2 ?_⟩⟩
      by_cases q : r.getD i 0 = r2.getD i 0
      · rw [q, if_pos rfl]
        refine ⟨⟨by omega, by omega⟩, ih (i + 1) he (by omega) ?_⟩
        rw [take_s hir, take_s hir2, hb, q]
      · rw [if_neg (fun w => q (cc_inj (ht _ (getD_mem hir)) (ht2 _ (getD_mem hir2)) w))]
        rw [if_neg (fun w => q (by rw [w]))] at hq
        exact hq
  refine wp_Flat_isSame ⟨h.1, h'.1, ?_⟩
  by_cases q : rs σ 1 o = rs σ 1 o2
  · rw [if_pos q]
    exact loop r.length 0 (by have := h.2.1; have := h'.2.1; omega) (by omega) (by simp)
  · rw [if_neg q]
    rw [if_neg (fun w => q (by rw [h.2.1, h'.2.1, w]))] at hq
    exact hq
/-! NODES' rows -/
theorem c_nset {Q : jS → Prop} {k v : Int} {c : Nat} (h0 : 0 ≤ o) (k0 : 0 ≤ k) (k1 : k < rs σ 6000 o) (hc : c < 8) (hl : rs σ 6000 o * 8 ≤ rl σ 6001 o) (hl2 : rl σ 6001 o ≤ 200000) (hq : Q (wa σ 6001 o (k * 8 + c) v)) : TrV n i_Nodes_set [jo 6 o, ji k, ji (c : Nat), ji v] σ Q := by
  refine wp_Nodes_set ⟨⟨by omega, by omega⟩, ⟨by omega, by omega⟩, ?_⟩
  rw [if_neg (by omega), if_neg (by omega), if_neg (by omega), if_neg (by omega), if_neg (by omega)]
  exact ⟨h0, by omega, by omega, by omega, fun s e => by rw [e]; exact hq⟩
theorem c_nget {Q : Int → jS → Prop} {k : Int} {c : Nat} (h0 : 0 ≤ o) (k0 : 0 ≤ k) (k1 : k < rs σ 6000 o) (hc : c < 8) (hl : rs σ 6000 o * 8 ≤ rl σ 6001 o) (hl2 : rl σ 6001 o ≤ 200000) (hq : Q (ra σ 6001 o (k * 8 + c)) σ) : TrI n i_Nodes_get [jo 6 o, ji k, ji (c : Nat)] σ Q := by
  refine wp_Nodes_get ⟨⟨by omega, by omega⟩, ⟨by omega, by omega⟩, ?_⟩
  rw [if_neg (by omega), if_neg (by omega), if_neg (by omega), if_neg (by omega), if_neg (by omega)]
  exact ⟨h0, by omega, by omega, by omega, hq⟩
/-- lengths that rows of NODES have -/
def gr3 (L : Int) : Prop := L = 256 ∨ L = 512 ∨ L = 1024 ∨ L = 2048 ∨ L = 4096 ∨ L = 8192 ∨ L = 16384 ∨ L = 32768 ∨ L = 65536 ∨ L = 131072
theorem t_copy2 {Q : Nat → Int → jS → Prop} {F : Nat} {o : Int} (hn : 1 ≤ n) (hj : jt F = 0) (hF : F < 800000) (h0 : 1 ≤ rl σ F o) (h2 : rl σ F o * 2 ≤ 2000000) (hq : ∀ s, (∀ s', s' = mA s 0 F o → grw σ F o s') → Q 900000 0 s) : TrA n i_Arrays_copyOf [ja F o, ji (rl σ F o * 2)] σ Q := by
  refine wp_Arrays_copyOf ⟨by omega, ?_⟩
  rw [if_pos (by omega)]
  have hFt : ¬ F = jtmp 0 := by unfold jtmp; omega
  refine ⟨by omega, by omega, hFt, fun s2 e2 => ?_⟩
  have r1 : rl s2 F o = rl σ F o := by rw [e2, rl_nA, if_neg (fun q => hFt q.1)]
  have r2 : rl s2 900000 0 = rl σ F o * 2 := by rw [e2, rl_nA]; exact if_pos ⟨rfl, rfl⟩
  have r3 : ra s2 F o = ra σ F o := by rw [e2, raf_nA, if_neg (fun q => hFt q.1)]
  rw [r1, r2]
  have hm : min (rl σ F o) (rl σ F o * 2) = rl σ F o := by omega
  rw [hm, r3]
  refine ⟨by omega, hj, by unfold jscr; omega, by omega, by omega, by omega, fun s7 e7 => hq s7 (fun s' e' => ?_)⟩
  have q1 : ∀ F' o', F' < 900000 → ra s7 F' o' = ra σ F' o' := fun F' o' hF' => by
    rw [e7, raf_wA, if_neg (fun q => by omega), e2, raf_nA, if_neg (fun q => by have := q.1; unfold jtmp at this; omega)]
  have q2 : ∀ F' o', F' < 900000 → rl s7 F' o' = rl σ F' o' := fun F' o' hF' => by
    rw [e7, rl_wA, e2, rl_nA, if_neg (fun q => by have := q.1; unfold jtmp at this; omega)]
  have q3 : ra s7 (jtmp 0) 0 = fun j => if 0 ≤ j ∧ j < 0 + rl σ F o then ra σ F o (0 + (j - 0)) else ra s2 900000 0 j := by
    rw [e7, raf_wA, if_pos ⟨rfl, rfl⟩]
  have q4 : ra s2 900000 0 = fun _ => 0 := by rw [e2, raf_nA]; exact if_pos ⟨rfl, rfl⟩
  have q5 : rl s7 (jtmp 0) 0 = rl σ F o * 2 := by rw [e7, rl_wA]; exact r2
  subst e'
  refine ⟨fun F' o' => ?_, fun F' o' hF' hne => ⟨?_, ?_⟩, ?_, fun i i0 i1 => ?_, fun i i1 => ?_, fun c => ?_, ?_, ?_, fun hT t => ?_⟩
  · rw [rs_mA, e7, rs_wA, e2, rs_nA]
  · rw [raf_mA, if_neg hne, q1 F' o' hF']
  · rw [rl_mA, if_neg hne, if_neg (fun q => by have := q.1; unfold jtmp at this; omega), q2 F' o' hF']
  · rw [rl_mA_self, q5]
  · rw [raf_mA, if_pos ⟨rfl, rfl⟩, q3]
    dsimp only
    rw [if_pos (by omega), show 0 + (i - 0) = i by omega]
  · rw [raf_mA, if_pos ⟨rfl, rfl⟩, q3, q4]
    dsimp only
    rw [if_neg (by omega)]
  · rw [rk_mA, e7, rk_wA, e2, rk_nA]
  · rw [rc_mA, e7, rc_wA, e2, rc_nA]
  · rw [rz_mA, e7, rz_wA, e2, rz_nA]
  · have ht : ¬ jtmp t = F := by unfold jtmp; omega
    rw [rl_mA, if_neg (fun q => ht q.1)]
    by_cases q : jtmp t = jtmp 0
    · rw [if_pos ⟨q, rfl⟩]; decide
    · rw [if_neg (fun w => q w.1), e7, rl_wA, e2, rl_nA, if_neg (fun w => q w.1)]
      exact hT t
theorem c_nadd {Q : Int → jS → Prop} (hn : 2 ≤ n) (ho : (o = 0 ∨ o = 1) ∨ o = 2) (h0 : 0 ≤ rs σ 6000 o) (h1 : (rs σ 6000 o + 1) * 8 ≤ 131072) (hl : rs σ 6000 o * 8 ≤ rl σ 6001 o) (hg : gr3 (rl σ 6001 o)) (hq : ∀ σ1, cq [(6000, o), (6001, o)] σ σ1 → rs σ1 6000 o = rs σ 6000 o + 1 → (rs σ 6000 o + 1) * 8 ≤ rl σ1 6001 o → gr3 (rl σ1 6001 o) → (∀ i, 0 ≤ i → i < rs σ 6000 o * 8 → ra σ1 6001 o i = ra σ 6001 o i) → Q (rs σ 6000 o) σ1) : TrI n i_Nodes_add [jo 6 o] σ Q := by
  have hoc : (lenT.contains (6001, o)) = true := by rcases ho with (w | w) | w <;> rw [w] <;> decide
  have e8 : (rs σ 6000 o + 1) * 8 = rs σ 6000 o * 8 + 8 := by omega
  have fin : ∀ s, cq [(6000, o), (6001, o)] σ s → rs s 6000 o = rs σ 6000 o → (rs σ 6000 o + 1) * 8 ≤ rl s 6001 o → gr3 (rl s 6001 o) → (∀ i, 0 ≤ i → i < rs σ 6000 o * 8 → ra s 6001 o i = ra σ 6001 o i) → J n c_Nodes_add (some .int) 45 [some (jo 6 o), none] [] s (qI Q) := by
    intro s c1 c2 c3 c4 c5
    refine wp_Nodes_add_45 ⟨by omega, by rw [c2]; exact ⟨by omega, by omega⟩, by rw [c2]; exact ⟨by omega, by omega⟩, by omega, ?_⟩
    rw [c2, if_pos c3]
    intro s5 e5
    have f5 : sq [(6000, o)] s s5 := by rw [e5]; exact (sq.rf _ s).pws 6000 o _ (List.contains_iff_mem.mpr List.mem_cons_self)
    refine hq s5 (c1.tr (f5.cq (List.all_eq_true.mpr (fun p hp => List.contains_iff_mem.mpr (by
      have : p = (6000, o) := by simpa using hp
      rw [this]; simp))))) (by rw [e5, rs_ws, if_pos ⟨rfl, rfl⟩]) (by rw [f5.nrl]; exact c3) (by rw [f5.nrl]; exact c4) (fun i i0 i1 => ?_)
    rw [show ra s5 6001 o = ra s 6001 o by rw [e5]; rfl]
    exact c5 i i0 i1
  refine wp_Nodes_add ⟨by omega, ⟨by omega, by omega⟩, ⟨by omega, by omega⟩, by unfold gr3 at hg; omega, ?_⟩
  by_cases q : (rs σ 6000 o + 1) * 8 ≤ rl σ 6001 o
  · rw [if_pos q]
    exact fin σ (cq.rf _ σ) rfl q hg (fun _ _ _ => rfl)
  · rw [if_neg q, if_neg (by unfold gr3 at hg; omega)]
    refine ⟨⟨by omega, by omega⟩, by omega, t_copy2 (by omega) rfl (by decide) (by unfold gr3 at hg; omega) (by omega) (fun s hs => ?_)⟩
    rw [if_pos ⟨rfl, rfl⟩]
    intro s11 e11
    have hgr := hs s11 e11
    have hcq := hgr.cq (by decide) (by unfold gr3 at hg; omega) (lens_grw hgr hoc) (List.contains_iff_mem.mp hoc) (fun w => absurd w (by decide)) (fun _ => by unfold gr3 at hg; omega)
    refine fin s11 (hcq.mo (List.all_eq_true.mpr (fun p hp => List.contains_iff_mem.mpr (by
      have : p = (6001, o) := by simpa using hp
      rw [this]; simp)))) (hgr.1 6000 o) (by rw [hgr.2.2.1]; unfold gr3 at hg; omega) (by rw [hgr.2.2.1]; unfold gr3 at hg ⊢; omega) (fun i i0 i1 => hgr.2.2.2.1 i i0 (by omega))
end ZFl
