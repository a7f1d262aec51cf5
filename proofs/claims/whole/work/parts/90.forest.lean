/-! A node more in a forest, as a whole: the class. -/
section ZFq
variable {n : Nat} {σ : jS}
theorem c_fadd {Q : jS → Prop} {fb nb o2 k a b : Int} {z : zN} {r : List Int} (hn : 4 ≤ n) (hf : (fb = 0 ∧ nb = 0) ∨ (fb = 1 ∧ nb = 2)) (ho2 : o2 = 0 ∨ o2 = 1) (hfb : rs σ 3000 fb = nb) (k0 : 0 ≤ k) (k1 : k < rs σ 6000 o2) (l2 : rs σ 6000 o2 * 8 ≤ rl σ 6001 o2) (g2 : gr3 (rl σ 6001 o2)) (h0 : 0 ≤ rs σ 6000 nb) (h1 : (rs σ 6000 nb + 1) * 8 ≤ 131072) (hl : rs σ 6000 nb * 8 ≤ rl σ 6001 nb) (hg : gr3 (rl σ 6001 nb)) (s0 : 0 ≤ rs σ 3002 fb) (s1 : rs σ 3002 fb ≤ 800000) (sl : rs σ 3002 fb ≤ rl σ 3001 fb) (sl1 : 1 ≤ rl σ 3001 fb) (hs : rs σ 1 243 = if r.length ≤ 100 then ((r.length : Nat) : Int) else 101) (ht : r.length ≤ 100 → fT σ 243 r) (hz0 : ra σ 6001 o2 (k * 8 + 0) = z.1) (hz3 : ra σ 6001 o2 (k * 8 + 3) = z.2.1) (hz4 : ra σ 6001 o2 (k * 8 + 4) = z.2.2.1) (hz5 : ra σ 6001 o2 (k * 8 + 5) = z.2.2.2.1) (hzr : (z.2.2.2.2.2.2.2).getD [] = r)
    (hq : ∀ σ', cq [(6000, nb), (6001, nb), (3001, fb), (3002, fb)] σ σ' → rs σ' 6000 nb = rs σ 6000 nb + 1 → rs σ' 6000 nb * 8 ≤ rl σ' 6001 nb → gr3 (rl σ' 6001 nb) → (∀ i, 0 ≤ i → i < rs σ 6000 nb * 8 → ra σ' 6001 nb i = ra σ 6001 nb i) → rs σ 3002 fb ≤ rs σ' 3002 fb → rs σ' 3002 fb ≤ rs σ 3002 fb + 100 → rs σ' 3002 fb ≤ rl σ' 3001 fb → 1 ≤ rl σ' 3001 fb → (∀ i, 0 ≤ i → i < rs σ 3002 fb → ra σ' 3001 fb i = ra σ 3001 fb i) → forN σ' nb fb (rs σ 6000 nb) z (a, b) → Q σ') : TrV n i_Forest_add [jo 3 fb, jo 0 243, jo 6 o2, ji k, ji a, ji b] σ Q := by
  have hnb : (nb = 0 ∨ nb = 1) ∨ nb = 2 := by omega
  have hf2 : fb = 0 ∨ fb = 1 := by omega
  refine wp_Forest_add ⟨by omega, by omega, by omega, ?_⟩
  rw [hfb]
  refine c_nadd (o := nb) (by omega) hnb h0 h1 hl hg (fun σ1 q1 e1 e2 e3 e4 => ⟨by omega, ?_⟩)
  generalize hT : rs σ 6000 nb = T at h0 h1 hl e1 e2 e4 hq
  have l1 : rl σ1 6001 nb ≤ 200000 := by unfold gr3 at e3; omega
  have e30 : rs σ1 3000 fb = nb := by rw [q1.nrs 3000 fb (by decide) (by simp)]; exact hfb
  -- the source row, at each time
  have src : ∀ (σ2 : jS) (c : Nat) (v : Int) (K : Int → jS → Prop), c < 8 → sq [(6001, nb)] σ1 σ2 → (∀ i, 0 ≤ i → i < T * 8 → ra σ2 6001 nb i = ra σ 6001 nb i) → ra σ 6001 o2 (k * 8 + ((c : Nat) : Int)) = v → K v σ2 → TrI (n - 1) i_Nodes_get [jo 6 o2, ji k, ji ((c : Nat) : Int)] σ2 K := by
    intro σ2 c v K hc f2 low hv hk
    by_cases q : o2 = nb
    · subst q
      refine c_nget (by omega) k0 (by rw [f2.nrs 6000 o2 (by simp)]; omega) hc (by rw [f2.nrs 6000 o2 (by simp), f2.nrl 6001 o2]; omega) (by rw [f2.nrl 6001 o2]; exact l1) ?_
      rw [low _ (by omega) (by omega), hv]
      exact hk
    · have u1 : rs σ2 6000 o2 = rs σ 6000 o2 := by rw [f2.nrs 6000 o2 (by simp), q1.nrs 6000 o2 (by decide) (by simp [q])]
      have u2 : rl σ2 6001 o2 = rl σ 6001 o2 := by rw [f2.nrl 6001 o2, q1.nrl 6001 o2 (by decide) (by simp [q])]
      have u3 : ra σ2 6001 o2 = ra σ 6001 o2 := by rw [f2.nraf 6001 o2 (by simp [q]), q1.nraf 6001 o2 (by decide) (by simp [q])]
      refine c_nget (by omega) k0 (by omega) hc (by omega) (by unfold gr3 at g2; omega) ?_
      rw [u3, hv]
      exact hk
  have st : ∀ (c : Nat) (v : Int) (σ2 : jS) (K : jS → Prop), c < 8 → sq [(6001, nb)] σ1 σ2 → (∀ i, 0 ≤ i → i < T * 8 → ra σ2 6001 nb i = ra σ 6001 nb i) → (∀ σ3, sq [(6001, nb)] σ1 σ3 → (∀ i, 0 ≤ i → i < T * 8 → ra σ3 6001 nb i = ra σ 6001 nb i) → (∀ i, ra σ3 6001 nb i = if i = T * 8 + ((c : Nat) : Int) then v else ra σ2 6001 nb i) → rs σ3 3000 fb = nb → K σ3) → TrV (n - 1) i_Nodes_set [jo 6 nb, ji T, ji ((c : Nat) : Int), ji v] σ2 K := by
    intro c v σ2 K hc f2 low hk
    refine c_nset (by omega) (by omega) (by rw [f2.nrs 6000 nb (by simp)]; omega) hc (by rw [f2.nrs 6000 nb (by simp), f2.nrl 6001 nb]; omega) (by rw [f2.nrl 6001 nb]; exact l1) ?_
    have f3 : sq [(6001, nb)] σ1 (wa σ2 6001 nb (T * 8 + ((c : Nat) : Int)) v) := f2.pwa 6001 nb _ _ (List.contains_iff_mem.mpr List.mem_cons_self)
    have rd : ∀ i, ra (wa σ2 6001 nb (T * 8 + ((c : Nat) : Int)) v) 6001 nb i = if i = T * 8 + ((c : Nat) : Int) then v else ra σ2 6001 nb i := fun i => by
      unfold wa
      rw [raf_wA, if_pos ⟨rfl, rfl⟩]
      rfl
    exact hk _ f3 (fun i i0 i1 => by rw [rd, if_neg (by omega)]; exact low i i0 i1) rd (by rw [f3.nrs 3000 fb (by simp)]; exact e30)
  refine src σ1 0 _ _ (by decide) (sq.rf _ σ1) e4 hz0 ?_
  rw [e30]
  refine ⟨by omega, st 0 _ σ1 _ (by decide) (sq.rf _ σ1) e4 (fun σ2 f2 w2 r2 u2 => ?_)⟩
  rw [u2]
  refine ⟨by omega, st 1 _ σ2 _ (by decide) f2 w2 (fun σ3 f3 w3 r3 u3 => ?_)⟩
  rw [u3]
  refine ⟨by omega, st 2 _ σ3 _ (by decide) f3 w3 (fun σ4 f4 w4 r4 u4 => ?_)⟩
  refine src σ4 3 _ _ (by decide) f4 w4 hz3 ?_
  rw [u4]
  refine ⟨by omega, st 3 _ σ4 _ (by decide) f4 w4 (fun σ5 f5 w5 r5 u5 => ?_)⟩
  refine src σ5 4 _ _ (by decide) f5 w5 hz4 ?_
  rw [u5]
  refine ⟨by omega, st 4 _ σ5 _ (by decide) f5 w5 (fun σ6 f6 w6 r6 u6 => ?_)⟩
  refine src σ6 5 _ _ (by decide) f6 w6 hz5 ?_
  rw [u6]
  refine ⟨by omega, st 5 _ σ6 _ (by decide) f6 w6 (fun σ7 f7 w7 r7 u7 => ?_)⟩
  rw [u7]
  refine ⟨by omega, st 6 _ σ7 _ (by decide) f7 w7 (fun σ8 f8 w8 r8 u8 => ?_)⟩
  rw [u8]
  refine ⟨by omega, by omega, st 7 _ σ8 _ (by decide) f8 w8 (fun σ9 f9 w9 r9 u9 => ?_)⟩
  have e32 : ∀ σj, sq [(6001, nb)] σ1 σj → rs σj 3002 fb = rs σ 3002 fb := fun σj fj => by rw [fj.nrs 3002 fb (by simp), q1.nrs 3002 fb (by decide) (by simp)]
  have e11 : ∀ σj, sq [(6001, nb)] σ1 σj → rs σj 1 243 = rs σ 1 243 := fun σj fj => by rw [fj.nrs 1 243 (by simp), q1.nrs 1 243 (by decide) (by simp)]
  have e31 : rl σ9 3001 fb = rl σ 3001 fb := by rw [f9.nrl 3001 fb, q1.nrl 3001 fb (by decide) (by simp)]
  have e33 : ra σ9 3001 fb = ra σ 3001 fb := by rw [f9.nraf 3001 fb (by simp), q1.nraf 3001 fb (by decide) (by simp)]
  have q9 : cq [(6000, nb), (6001, nb), (3001, fb), (3002, fb)] σ σ9 := (q1.mo (by simp)).tr (f9.cq (by simp))
  rw [e32 σ7 f7] at r8
  rw [e11 σ8 f8] at r9
  refine c_fadd135 (r := r) (by omega) hf2 (by rw [e32 σ9 f9]; exact s0) (by rw [e32 σ9 f9]; exact s1) (by rw [e11 σ9 f9]; exact hs) (fun w => ?_) (fun σ10 p1 p2 p3 p4 p5 p6 => ?_) (by rw [e32 σ9 f9, e31]; exact sl) (by rw [e31]; exact sl1)
  · obtain ⟨t1, t2, t3, t4⟩ := ht w
    refine ⟨t1, by rw [e11 σ9 f9]; exact t2, by rw [q9.nrl 0 243 (by decide) (by simp)]; exact t3, fun j hj => by rw [q9.nraf 0 243 (by decide) (by simp)]; exact t4 j hj⟩
  · have g1 : ra σ10 6001 nb = ra σ9 6001 nb := p1.nraf 6001 nb (by decide) (by simp)
    have g3 : rs σ10 6000 nb = T + 1 := by rw [p1.nrs 6000 nb (by decide) (by simp), f9.nrs 6000 nb (by simp)]; exact e1
    have g4 : rl σ10 6001 nb = rl σ1 6001 nb := by rw [p1.nrl 6001 nb (by decide) (by simp), f9.nrl 6001 nb]
    rw [e32 σ9 f9] at p2 p5 p6
    have rd : ∀ i, ra σ9 6001 nb i = if i = T * 8 + 7 then min (rs σ 1 243) 101 else if i = T * 8 + 6 then rs σ 3002 fb else if i = T * 8 + 5 then z.2.2.2.1 else if i = T * 8 + 4 then z.2.2.1 else if i = T * 8 + 3 then z.2.1 else if i = T * 8 + 2 then b else if i = T * 8 + 1 then a else if i = T * 8 + 0 then z.1 else ra σ1 6001 nb i := fun i => by
      rw [r9, r8, r7, r6, r5, r4, r3, r2]
      rfl
    have hlen : rs σ10 3002 fb ≤ rs σ 3002 fb + 100 := by
      rw [p2]
      split <;> omega
    refine hq σ10 (q9.tr (p1.mo (by simp))) g3 (by rw [g3, g4]; exact e2) (by rw [g4]; exact e3) (fun i i0 i1 => by rw [g1]; exact w9 i i0 i1) (by rw [p2]; split <;> omega) hlen p3 p4 (fun i i0 i1 => by rw [p6 i i0 i1, e33]) ?_
    unfold forN
    rw [g1, hzr]
    refine ⟨⟨?_, ?_⟩, ?_, ?_, ?_, ?_, ?_, ?_, ?_, fun w => ⟨?_, ?_, fun j hj => ?_⟩⟩
    · rw [rd, if_neg (by omega), if_pos rfl]; exact s0
    · rw [rd, if_neg (by omega), if_pos rfl, p2]; split <;> omega
    · rw [rd, if_neg (by omega), if_neg (by omega), if_neg (by omega), if_neg (by omega), if_neg (by omega), if_neg (by omega), if_neg (by omega), if_pos rfl]
    · rw [rd, if_neg (by omega), if_neg (by omega), if_neg (by omega), if_neg (by omega), if_neg (by omega), if_neg (by omega), if_pos rfl]
    · rw [rd, if_neg (by omega), if_neg (by omega), if_neg (by omega), if_neg (by omega), if_neg (by omega), if_pos rfl]
    · rw [rd, if_neg (by omega), if_neg (by omega), if_neg (by omega), if_neg (by omega), if_pos rfl]
    · rw [rd, if_neg (by omega), if_neg (by omega), if_neg (by omega), if_pos rfl]
    · rw [rd, if_neg (by omega), if_neg (by omega), if_pos rfl]
    · rw [rd, if_pos rfl, hs]
      split <;> omega
    · rw [rd, if_neg (by omega), if_pos rfl]; exact s0
    · rw [rd, if_neg (by omega), if_pos rfl, p2, if_pos w]; omega
    · rw [rd, if_neg (by omega), if_pos rfl]
      exact p5 w j hj
end ZFq
