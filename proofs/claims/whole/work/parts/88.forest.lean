/-! A sign more in a forest: the class. -/
section ZFo
variable {n : Nat} {σ : jS}
theorem c_addSign {Q : jS → Prop} {fb v : Int} (hn : 2 ≤ n) (hf : fb = 0 ∨ fb = 1) (h0 : 0 ≤ rs σ 3002 fb) (h1 : rs σ 3002 fb ≤ 900000) (hl : rs σ 3002 fb ≤ rl σ 3001 fb) (h2 : 1 ≤ rl σ 3001 fb) (hq : ∀ σ', cq [(3001, fb), (3002, fb)] σ σ' → rs σ' 3002 fb = rs σ 3002 fb + 1 → rs σ' 3002 fb ≤ rl σ' 3001 fb → 1 ≤ rl σ' 3001 fb → ra σ' 3001 fb (rs σ 3002 fb) = v → (∀ i, 0 ≤ i → i < rs σ 3002 fb → ra σ' 3001 fb i = ra σ 3001 fb i) → Q σ') : TrV n i_Forest_addSign [jo 3 fb, ji v] σ Q := by
  have hoc : (lenT.contains (3001, fb)) = true := by rcases hf with w | w <;> rw [w] <;> decide
  have fin : ∀ s, cq [(3001, fb), (3002, fb)] σ s → rs s 3002 fb = rs σ 3002 fb → rs σ 3002 fb < rl s 3001 fb → (∀ i, 0 ≤ i → i < rs σ 3002 fb → ra s 3001 fb i = ra σ 3001 fb i) → J n c_Forest_addSign none 40 [some (jo 3 fb), some (ji v)] [] s (qV Q) := by
    intro s c1 c2 c3 c5
    refine wp_Forest_addSign_40 ⟨by omega, by omega, ?_⟩
    rw [c2, if_neg (by omega)]
    refine ⟨by omega, c3, fun s5 e5 => ?_⟩
    have f5 : sq [(3001, fb), (3002, fb)] s s5 := by rw [e5]; exact (sq.rf _ s).pwa 3001 fb _ _ (List.contains_iff_mem.mpr List.mem_cons_self)
    have r5 : ra s5 3001 fb = upI (ra s 3001 fb) (rs σ 3002 fb) v := by
      rw [e5]
      unfold wa
      rw [raf_wA, if_pos ⟨rfl, rfl⟩]
    have g5 : rs s5 3002 fb = rs σ 3002 fb := by rw [e5]; exact c2
    rw [g5]
    refine ⟨⟨by omega, by omega⟩, fun s7 e7 => ?_⟩
    have f7 : sq [(3001, fb), (3002, fb)] s s7 := by rw [e7]; exact f5.pws 3002 fb _ (List.contains_iff_mem.mpr (List.mem_cons_of_mem _ List.mem_cons_self))
    have r7 : ra s7 3001 fb = ra s5 3001 fb := by rw [e7]; rfl
    have g7 : rs s7 3002 fb = rs σ 3002 fb + 1 := by rw [e7, rs_ws, if_pos ⟨rfl, rfl⟩]
    have l7 : rl s7 3001 fb = rl s 3001 fb := f7.nrl 3001 fb
    refine hq s7 (c1.tr (f7.cq (List.all_eq_true.mpr (fun p hp => List.contains_iff_mem.mpr hp)))) g7 (by omega) (by omega) ?_ (fun i i0 i1 => ?_)
    · rw [r7, r5]; unfold upI; rw [if_pos rfl]
    · rw [r7, r5]; unfold upI; rw [if_neg (by omega)]; exact c5 i i0 i1
  refine wp_Forest_addSign ⟨by omega, by omega, ?_⟩
  by_cases q : rs σ 3002 fb = rl σ 3001 fb
  · rw [if_neg (fun w => w q), if_neg (by omega)]
    refine ⟨⟨by omega, by omega⟩, by omega, t_copy2 (by omega) rfl (by decide) h2 (by omega) (fun s hs => ?_)⟩
    rw [if_pos ⟨rfl, rfl⟩]
    intro s11 e11
    have hgr := hs s11 e11
    have hcq := hgr.cq (by decide) (by omega) (lens_grw hgr hoc) (List.contains_iff_mem.mp hoc) (fun _ => by omega) (fun w => absurd rfl w)
    refine fin s11 (hcq.mo (List.all_eq_true.mpr (fun p hp => List.contains_iff_mem.mpr (by
      have : p = (3001, fb) := by simpa using hp
      rw [this]; simp)))) (hgr.1 3002 fb) (by rw [hgr.2.2.1]; omega) (fun i i0 i1 => hgr.2.2.2.1 i i0 (by omega))
  · rw [if_pos q]
    exact fin σ (cq.rf _ σ) rfl (by omega) (fun _ _ _ => rfl)
end ZFo
