/-! What was put, written down and put again; goals that only grow: the class. -/
theorem trl_get {f : Int → Int} {β : List (Int × Int)} : ∀ {new : List (Int × Int)}, trl f (new ++ β) → ∀ j, (h : j < new.reverse.length) → f ((β.length + j : Nat) : Int) = (new.reverse[j]).1 := by
  intro new
  induction new with
  | nil => intro _ j h; simp at h
  | cons p new ih =>
    obtain ⟨u, t⟩ := p
    intro h j hj
    have hl : ((u, t) :: new).reverse.length = new.length + 1 := by simp
    rw [hl] at hj
    have e : ((u, t) :: new).reverse = new.reverse ++ [(u, t)] := List.reverse_cons
    by_cases q : j < new.length
    · have := ih h.2 j (by rw [List.length_reverse]; exact q)
      rw [this]
      simp [List.getElem_append, q]
    · have ej : j = new.length := by omega
      subst ej
      have h1 : f ((new ++ β).length : Nat) = u := h.1
      rw [List.length_append] at h1
      rw [show ((β.length + new.length : Nat) : Int) = ((new.length + β.length : Nat) : Int) by omega, h1]
      simp
section ZSv
variable {n : Nat} {σ : jS} {g : zH} {N : Int} {β E : List (Int × Int)} {x u t : Int} {T : zT}
theorem bok_snd : ∀ {β : List (Int × Int)}, bok g N β → ∀ p, p ∈ β → 0 ≤ p.2 := by
  intro β
  induction β with
  | nil => intro _ p hp; cases hp
  | cons a β ih =>
    obtain ⟨u, t⟩ := a
    intro hb p hp
    rcases List.mem_cons.mp hp with w | w
    · rw [w]; exact hb.1.2.2.2.1
    · exact ih hb.2 p w
theorem bl_mem : ∀ {β : List (Int × Int)}, bok g N β → (u, t) ∈ β → bl β u = t := by
  intro β
  induction β with
  | nil => intro _ h; cases h
  | cons p β ih =>
    obtain ⟨u', t'⟩ := p
    rintro ⟨⟨a1, a2, a3, a4, a5, a6⟩, hb⟩ h
    rcases List.mem_cons.mp h with e | e
    · have e1 := congrArg Prod.fst e
      have e2 := congrArg Prod.snd e
      dsimp only at e1 e2
      rw [e1, e2]; exact bl_cons_eq
    · have := ih hb e
      have h2 := bok_snd hb _ e
      dsimp only at h2
      by_cases q : u = u'
      · rw [q, a6] at this
        omega
      · rw [bl_cons_ne q]; exact this
theorem bok_app : ∀ {A : List (Int × Int)}, bok g N (A ++ β) → bok g N β := by
  intro A
  induction A with
  | nil => intro h; exact h
  | cons a A ih => obtain ⟨u, t⟩ := a; intro h; exact ih h.2
/-- some pairs, the oldest first, from a place on -/
def savd (f : Int → Int) (s0 : Int) (L : List (Int × Int)) : Prop := ∀ j, (h : j < L.length) → f (s0 + 2 * (j : Nat)) = (L[j]).1 ∧ f (s0 + 2 * (j : Nat) + 1) = (L[j]).2
theorem c_save {Q : jS → Prop} {new : List (Int × Int)} (hn : 3 ≤ n) (h : cT σ g N (new ++ β)) (hT : jnG σ) (h0 : 0 ≤ rs σ 9002 0) (h1 : rs σ 9002 0 + 2 * (new.length : Nat) ≤ 60000) (hc : rs σ 9002 0 ≤ rl σ 9007 0) (hg : gr2 (rl σ 9007 0))
    (hq : ∀ σ', cT σ' g N (new ++ β) → cq [(9002, 0), (9007, 0)] σ σ' → rs σ' 9002 0 = rs σ 9002 0 + 2 * (new.length : Nat) → rs σ' 9002 0 ≤ rl σ' 9007 0 → gr2 (rl σ' 9007 0) → savd (ra σ' 9007 0) (rs σ 9002 0) new.reverse → (∀ i, 0 ≤ i → i < rs σ 9002 0 → ra σ' 9007 0 i = ra σ 9007 0 i) → Q σ') : TrV n i_Terms_save [jo 9 0, ji (β.length : Nat)] σ Q := by
  have hrl : new.reverse.length = new.length := List.length_reverse
  have hbk := h.1.2.2.1
  have loop : ∀ (m j : Nat) (σ1 : jS), j + m = new.length → cT σ1 g N (new ++ β) → cq [(9002, 0), (9007, 0)] σ σ1 → rs σ1 9002 0 = rs σ 9002 0 + 2 * (j : Nat) → rs σ1 9002 0 ≤ rl σ1 9007 0 → gr2 (rl σ1 9007 0) → (∀ i, (hi : i < new.reverse.length) → i < j → ra σ1 9007 0 (rs σ 9002 0 + 2 * (i : Nat)) = (new.reverse[i]).1 ∧ ra σ1 9007 0 (rs σ 9002 0 + 2 * (i : Nat) + 1) = (new.reverse[i]).2) → (∀ i, 0 ≤ i → i < rs σ 9002 0 → ra σ1 9007 0 i = ra σ 9007 0 i) → J n c_Terms_save none 6 [some (jo 9 0), none, some (ji ((β.length + j : Nat) : Int))] [] σ1 (qV Q) := by
    intro m
    induction m with
    | zero =>
      intro j σ1 hj f1 f2 f3 f4 f5 f6 f7
      have h13 := f1.1.2.2.2.2.2.2.2.2.2.2.2.2.1.1
      rw [List.length_append] at h13
      refine wp_Terms_save_6 ⟨by omega, ?_⟩
      rw [if_pos (by omega)]
      have ej : j = new.length := by omega
      rw [ej] at f3
      exact hq σ1 f1 f2 f3 f4 f5 (fun i hi => f6 i hi (by omega)) f7
    | succ m ih =>
      intro j σ1 hj f1 f2 f3 f4 f5 f6 f7
      have h13 := f1.1.2.2.2.2.2.2.2.2.2.2.2.2.1
      rw [List.length_append] at h13
      have hz := f1.1.2.1
      have hjr : j < new.reverse.length := by omega
      have htr := trl_get f1.1.2.2.2.2.2.2.2.2.2.2.2.2.2 j hjr
      have hmem : new.reverse[j] ∈ new ++ β := List.mem_append_left _ (List.mem_reverse.mp (List.getElem_mem hjr))
      have hbl : bl (new ++ β) (new.reverse[j]).1 = (new.reverse[j]).2 := bl_mem hbk hmem
      -- there is room
      have put : ∀ s, cT s g N (new ++ β) → cq [(9002, 0), (9007, 0)] σ s → rs s 9002 0 = rs σ 9002 0 + 2 * (j : Nat) → rs s 9002 0 + 2 ≤ rl s 9007 0 → gr2 (rl s 9007 0) → (∀ i, (hi : i < new.reverse.length) → i < j → ra s 9007 0 (rs σ 9002 0 + 2 * (i : Nat)) = (new.reverse[i]).1 ∧ ra s 9007 0 (rs σ 9002 0 + 2 * (i : Nat) + 1) = (new.reverse[i]).2) → (∀ i, 0 ≤ i → i < rs σ 9002 0 → ra s 9007 0 i = ra σ 9007 0 i) → J n c_Terms_save none 41 [some (jo 9 0), none, some (ji ((β.length + j : Nat) : Int))] [] s (qV Q) := by
        intro s c1 c2 c3 c4 c5 c6 c7
        have c13 := c1.1.2.2.2.2.2.2.2.2.2.2.2.2.1
        rw [List.length_append] at c13
        have ctr := trl_get c1.1.2.2.2.2.2.2.2.2.2.2.2.2.2 j hjr
        have hbn := (bok_at hbk (n := (new.reverse[j]).1) (by
          rw [hbl]
          have := bok_snd hbk _ hmem
          omega))
        have g9 := c1.1.2.2.2.2.2.2.2.2.1
        unfold gr2 at g9
        refine wp_Terms_save_41 ⟨by omega, by rw [c3]; exact ⟨by omega, by omega⟩, by omega, ?_⟩
        rw [if_neg (by omega)]
        refine ⟨by omega, by omega, by omega, by omega, by omega, fun s8 e8 => ?_⟩
        have f8 : sq [(9007, 0)] s s8 := by rw [e8]; exact (sq.rf _ s).pwa 9007 0 _ _ (by decide)
        have d8 := c1.sq f8 (by decide)
        rw [f8.nrl 9007 0, f8.nrl 9006 0, f8.nraf 9006 0 (by decide), show rs s8 9002 0 = rs s 9002 0 by rw [e8]; rfl, ctr]
        refine ⟨by omega, ⟨by omega, by omega⟩, by omega, by omega, by omega, ?_, ?_⟩
        · exact ((f8.cq (l' := [(9007, 0)]) (by decide)).2.2.2.2 (c2.2.2.2.2 hT)).1
        · refine c_bound d8.1 hbn.1 hbn.2.1 hbn.2.2.1 ?_
          rw [hbl]
          refine ⟨rfl, by omega, by rw [f8.nrl]; omega, fun s19 e19 => ?_⟩
          have f19 : sq [(9007, 0)] s s19 := by rw [e19]; exact f8.pwa 9007 0 _ _ (by decide)
          rw [show rs s19 9002 0 = rs s 9002 0 by rw [e19, e8]; rfl]
          refine ⟨⟨by omega, by omega⟩, fun s23 e23 => ⟨⟨by omega, by omega⟩, ?_⟩⟩
          have f23 : sq [(9002, 0), (9007, 0)] s s23 := by rw [e23]; exact (f19.mo (by decide)).pws 9002 0 _ (by decide)
          have a7 : ra s23 9007 0 = upI (upI (ra s 9007 0) (rs s 9002 0) (new.reverse[j]).1) (rs s 9002 0 + 1) (new.reverse[j]).2 := by
            rw [e23, e19, e8, ctr]
            rfl
          have := ih (j + 1) s23 (by omega) (c1.sq f23 (by decide)) (c2.tr (f23.cq (by decide))) (by rw [e23, rs_ws, if_pos ⟨rfl, rfl⟩]; omega) (by rw [f23.nrl, e23, rs_ws, if_pos ⟨rfl, rfl⟩]; omega) (by rw [f23.nrl]; exact c5) (fun i hi hij => ?_) (fun i i0 i1 => ?_)
          · rw [show ((β.length + j : Nat) : Int) + 1 = ((β.length + (j + 1) : Nat) : Int) by omega]
            exact this
          · rw [a7]
            unfold upI
            by_cases w : i = j
            · subst w
              rw [if_neg (by omega), if_pos (by omega), if_pos (by omega)]
              exact ⟨rfl, rfl⟩
            · rw [if_neg (by omega), if_neg (by omega), if_neg (by omega), if_neg (by omega)]
              exact c6 i hi (by omega)
          · rw [a7]
            unfold upI
            rw [if_neg (by omega), if_neg (by omega)]
            exact c7 i i0 i1
      refine wp_Terms_save_6 ⟨by omega, ?_⟩
      rw [if_neg (by omega)]
      refine ⟨⟨by omega, by omega⟩, by unfold gr2 at f5; omega, ?_⟩
      by_cases q : rs σ1 9002 0 + 2 ≤ rl σ1 9007 0
      · rw [if_pos q]
        exact put σ1 f1 f2 f3 q f5 f6 f7
      · rw [if_neg q]
        refine ⟨by omega, t_grown (by omega) rfl (by decide) (by unfold gr2 at f5; omega) (by unfold gr2 at f5; omega) (by unfold gr2 at f5; omega) (fun s hs => ?_)⟩
        rw [if_pos ⟨rfl, rfl⟩]
        intro s9 e9
        have hgr := hs s9 e9
        have hcq := hgr.cq (by decide) (by unfold gr2 at f5; omega) (lens_grw hgr (by decide)) (by decide) (fun w => absurd w (by decide)) (fun _ => by unfold gr2 at f5; omega)
        obtain ⟨k1, k2, k3, k4, k5, k6, k7, k8, k9⟩ := hgr
        have kk : ∀ F, F < 900000 → ¬ F = 9007 → ra s9 F 0 = ra σ1 F 0 ∧ rl s9 F 0 = rl σ1 F 0 := fun F h h' => k2 F 0 h (fun q => h' q.1)
        have hcT : cT s9 g N (new ++ β) := by
          obtain ⟨⟨b1, b2, b3, b4, b5, b6, b7, b8, b9, b10, b11, b12, b13, b14⟩, b15⟩ := f1
          refine ⟨?_, ?_⟩
          · unfold cT0
            rw [(kk 9003 (by decide) (by decide)).1, (kk 9005 (by decide) (by decide)).1, (kk 9006 (by decide) (by decide)).1, k1, k1, (kk 9003 (by decide) (by decide)).2, (kk 9004 (by decide) (by decide)).2, (kk 9005 (by decide) (by decide)).2, (kk 9006 (by decide) (by decide)).2]
            exact ⟨b1.cq hcq, b2, b3, b4, b5, b6, b7, b8, b9, b10, b11, b12, b13, b14⟩
          · unfold mk0
            rw [(kk 9004 (by decide) (by decide)).1, (kk 9004 (by decide) (by decide)).2]
            exact b15
        refine put s9 hcT (f2.tr (hcq.mo (by decide))) (by rw [k1]; exact f3) (by rw [k1, k3]; unfold gr2 at f5; omega) (by rw [k3]; unfold gr2 at f5 ⊢; omega) (fun i hi hij => ?_) (fun i i0 i1 => ?_)
        · rw [k4 _ (by omega) (by omega), k4 _ (by omega) (by omega)]
          exact f6 i hi hij
        · rw [k4 i i0 (by omega)]
          exact f7 i i0 i1
  refine wp_Terms_save ⟨by omega, ?_⟩
  rw [show max ((β.length : Nat) : Int) 0 = ((β.length + 0 : Nat) : Int) by omega]
  exact loop new.length 0 σ (by omega) h (cq.rf _ σ) (by omega) hc hg (fun i hi h0 => absurd h0 (Nat.not_lt_zero i)) (fun _ _ _ => rfl)
/-- what was written down is put again -/
theorem c_putAgain {Q : jS → Prop} {new : List (Int × Int)} {s0 : Int} (hn : 4 ≤ n) (h : cT σ g N β) (hb : bok g N (new ++ β)) (h0 : 0 ≤ s0) (ht : rs σ 9002 0 = s0 + 2 * (new.length : Nat)) (hc : rs σ 9002 0 ≤ rl σ 9007 0) (hl : rl σ 9007 0 ≤ 65536) (hs : savd (ra σ 9007 0) s0 new.reverse)
    (hq : ∀ σ', cT σ' g N (new ++ β) → cq [(9001, 0), (9002, 0), (9005, 0), (9006, 0)] σ σ' → rs σ' 9002 0 = s0 → Q σ') : TrV n i_Terms_putAgain [jo 9 0, ji s0] σ Q := by
  have hrl : new.reverse.length = new.length := List.length_reverse
  have loop : ∀ (R B : List (Int × Int)) (σ1 : jS), new = R.reverse ++ B → cT σ1 g N (B ++ β) → cq [(9001, 0), (9005, 0), (9006, 0)] σ σ1 → J n c_Terms_putAgain none 6 [some (jo 9 0), some (ji s0), some (ji (s0 + 2 * (B.length : Nat)))] [] σ1 (qV Q) := by
    intro R
    induction R with
    | nil =>
      intro B σ1 e f1 f2
      rw [List.reverse_nil, List.nil_append] at e
      subst e
      refine wp_Terms_putAgain_6 ⟨⟨by omega, by omega⟩, by omega, ?_⟩
      rw [f2.nrs 9002 0 (by decide) (by decide), if_pos (by omega)]
      intro s3 e3
      have f3 : sq [(9002, 0)] σ1 s3 := by rw [e3]; exact (sq.rf _ σ1).pws 9002 0 _ (by decide)
      exact hq s3 (f1.sq f3 (by decide)) ((f2.mo (by decide)).tr (f3.cq (by decide))) (by rw [e3, rs_ws, if_pos ⟨rfl, rfl⟩])
    | cons p R ih =>
      intro B σ1 e f1 f2
      obtain ⟨u, t⟩ := p
      have e2 : new = R.reverse ++ ((u, t) :: B) := by rw [e]; simp
      have hlen : new.length = R.length + (B.length + 1) := by rw [e2]; simp
      have hj : B.length < new.reverse.length := by omega
      have hget : new.reverse[B.length] = (u, t) := by
        have : new.reverse = B.reverse ++ ((u, t) :: R) := by rw [e2]; simp
        simp [this, List.getElem_append]
      have hsv := hs B.length hj
      rw [hget] at hsv
      have hb2 : bok g N ((u, t) :: (B ++ β)) := by
        rw [e2, List.append_assoc] at hb
        exact bok_app hb
      obtain ⟨⟨u0, u1, hu, t0, t1, hf⟩, -⟩ := hb2
      refine wp_Terms_putAgain_6 ⟨⟨by omega, by omega⟩, by omega, ?_⟩
      rw [f2.nrs 9002 0 (by decide) (by decide), if_neg (by omega), f2.nrl 9007 0 (by decide) (by decide), f2.nraf 9007 0 (by decide) (by decide), hsv.1, hsv.2]
      refine ⟨by omega, by omega, by omega, by omega, by omega, by omega, ?_⟩
      refine c_put (by omega) f1 u0 u1 hu hf t0 t1 (fun σ2 c1 c2 => ⟨⟨by omega, by omega⟩, ?_⟩)
      have := ih ((u, t) :: B) σ2 e2 c1 (f2.tr (c2.mo (by decide)))
      rw [List.length_cons] at this
      rw [show s0 + 2 * ((B.length : Nat) : Int) + 2 = s0 + 2 * ((B.length + 1 : Nat) : Int) by omega]
      exact this
  refine wp_Terms_putAgain ⟨by omega, ?_⟩
  have := loop new.reverse [] σ (by simp) h (cq.rf _ σ)
  rw [show max s0 0 = s0 + 2 * ((([] : List (Int × Int)).length : Nat) : Int) by simp; omega]
  exact this
end ZSv
