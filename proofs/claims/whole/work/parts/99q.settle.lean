/-! What becomes what, in a text: the class. -/
section ZSe
variable {n : Nat} {σ σ1 : jS} {tx : Int} {R : Int → List Int} {G : Nat}
set_option maxRecDepth 8000 in
theorem c_settle {Q : jS → Prop} (hn : 6 ≤ n) (hm : cln σ) (htx : tx = 0 ∨ tx = 1) (hP : ∀ j, 0 ≤ j → j < 120 → ra σ 10008 tx j = 2 + 120 * tx + j) (h7 : rs σ 10007 tx = tx) (hG : rs σ 10001 tx = ((G : Nat) : Int)) (hG24 : G ≤ 24) (hR : ∀ g : Int, 0 ≤ g → g < ((G : Nat) : Int) → fT σ (2 + 120 * tx + (5 * g + ((0 : Nat) : Int))) (R g) ∧ rwk (R g))
    (hq : ∀ σ', sq [(4000, tx), (10009, tx)] σ σ' → (∀ g : Int, 0 ≤ g → g < ((G : Nat) : Int) → bse (ra σ' 10009 tx g) (fun c => 0 ≤ c ∧ c < ((G : Nat) : Int) ∧ becm (R g) (R c))) → Q σ') : TrV n i_Text_settle [jo 10 tx] σ Q := by
  have l9 : rl σ 10009 tx = 24 := by rcases htx with w | w <;> rw [w]; exact cln_at hm 10009 0 24 (by decide); exact cln_at hm 10009 1 24 (by decide)
  have l4 : rl σ 4000 tx = 26 := by rcases htx with w | w <;> rw [w]; exact cln_at hm 4000 0 26 (by decide); exact cln_at hm 4000 1 26 (by decide)
  -- one row
  have inner : ∀ (d c g : Nat) (σ1 : jS), c + d = G → g < G → sq [(4000, tx), (10009, tx)] σ σ1 → bse (ra σ1 10009 tx ((g : Nat) : Int)) (fun z => 0 ≤ z ∧ z < ((c : Nat) : Int) ∧ becm (R ((g : Nat) : Int)) (R z)) → (∀ σ2, sq [(4000, tx), (10009, tx)] σ σ2 → (∀ z : Int, ¬ z = ((g : Nat) : Int) → ra σ2 10009 tx z = ra σ1 10009 tx z) → bse (ra σ2 10009 tx ((g : Nat) : Int)) (fun z => 0 ≤ z ∧ z < ((G : Nat) : Int) ∧ becm (R ((g : Nat) : Int)) (R z)) → J n c_Text_settle none 2 [some (jo 10 tx), some (ji (((g : Nat) : Int) + 1)), none] [] σ2 (qV Q)) → J n c_Text_settle none 19 [some (jo 10 tx), some (ji ((g : Nat) : Int)), some (ji ((c : Nat) : Int))] [] σ1 (qV Q) := by
    intro d
    induction d with
    | zero =>
      intro c g σ1 hc hg e1 hb hk
      have ec : c = G := by omega
      subst ec
      refine wp_Text_settle_19 ⟨by omega, ?_⟩
      rw [e1.nrs 10001 tx (by simp), hG, if_pos (Int.le_refl _)]
      exact ⟨⟨by omega, by omega⟩, hk σ1 e1 (fun _ _ => rfl) hb⟩
    | succ d ih =>
      intro c g σ1 hc hg e1 hb hk
      have hP1 : ∀ j, 0 ≤ j → j < 120 → ra σ1 10008 tx j = 2 + 120 * tx + j := fun j j0 j1 => by
        rw [e1.nra 10008 tx _ (by simp)]
        exact hP j j0 j1
      obtain ⟨r1, r2⟩ := hR ((g : Nat) : Int) (by omega) (by omega)
      obtain ⟨r3, r4⟩ := hR ((c : Nat) : Int) (by omega) (by omega)
      refine wp_Text_settle_19 ⟨by omega, ?_⟩
      rw [e1.nrs 10001 tx (by simp), hG, if_neg (by omega)]
      refine ⟨by omega, c_partFlat (i := 0) htx (hm.sq e1) hP1 (by omega) (by omega) (by omega) (c_partFlat (i := 0) htx (hm.sq e1) hP1 (by omega) (by omega) (by omega) ?_)⟩
      rw [e1.nrs 10007 tx (by simp), h7]
      refine ⟨by omega, c_becomes (by omega) (by rw [e1.nrl]; exact l4) (by omega) (r3.sq e1 (by simp)) (r1.sq e1 (by simp)) r4 r2 (fun v σ2 e2 hv hw => ?_)⟩
      have E2 : sq [(4000, tx), (10009, tx)] σ1 σ2 := e2.mo (by simp)
      have b2 : ra σ2 10009 tx = ra σ1 10009 tx := e2.nraf 10009 tx (by simp)
      by_cases q : v = 0
      · rw [if_pos q]
        refine ⟨⟨by omega, by omega⟩, ?_⟩
        rw [show ((c : Nat) : Int) + 1 = ((c + 1 : Nat) : Int) by omega]
        refine ih (c + 1) g σ2 (by omega) hg (e1.tr E2) ?_ (fun σ3 e3 h3 hb3 => hk σ3 e3 (fun z hz => by rw [h3 z hz, b2]) hb3)
        rw [b2]
        refine ⟨hb.1, fun z z0 z1 => (hb.2 z z0 z1).trans ⟨fun ⟨w1, w2, w3⟩ => ⟨w1, by omega, w3⟩, fun ⟨w1, w2, w3⟩ => ?_⟩⟩
        by_cases qz : z = ((c : Nat) : Int)
        · rw [qz] at w3
          have := hw.mpr w3
          omega
        · exact ⟨w1, by omega, w3⟩
      · have hv1 : v = 1 := by omega
        rw [if_neg q, e2.nrl 10009 tx, e1.nrl 10009 tx, l9]
        refine ⟨by omega, by omega, by omega, fun s17 e17 => ⟨⟨by omega, by omega⟩, ?_⟩⟩
        have f17 : sq [(10009, tx)] σ2 s17 := by rw [e17]; exact (sq.rf _ σ2).pwa 10009 tx _ _ (List.contains_iff_mem.mpr List.mem_cons_self)
        have r17 : ∀ z : Int, ra s17 10009 tx z = if z = ((g : Nat) : Int) then bOr (ra σ1 10009 tx ((g : Nat) : Int)) (bShl 1 ((c : Nat) : Int)) else ra σ1 10009 tx z := fun z => by
          rw [e17]
          unfold wa
          rw [raf_wA, if_pos ⟨rfl, rfl⟩, b2]
          rfl
        clear e17
        rw [show ((c : Nat) : Int) + 1 = ((c + 1 : Nat) : Int) by omega]
        refine ih (c + 1) g s17 (by omega) hg ((e1.tr E2).tr (f17.mo (by simp))) ?_ (fun σ3 e3 h3 hb3 => hk σ3 e3 (fun z hz => by rw [h3 z hz, r17, if_neg hz]) hb3)
        rw [r17, if_pos rfl]
        refine ⟨i32_bOr _ _, fun z z0 z1 => ?_⟩
        show tb (bOr (ra σ1 10009 tx ((g : Nat) : Int)) (bShl 1 ((c : Nat) : Int))) z = true ↔ 0 ≤ z ∧ z < ((c + 1 : Nat) : Int) ∧ becm (R ((g : Nat) : Int)) (R z)
        have hz : tb (ra σ1 10009 tx ((g : Nat) : Int)) z = true ↔ 0 ≤ z ∧ z < ((c : Nat) : Int) ∧ becm (R ((g : Nat) : Int)) (R z) := hb.2 z z0 z1
        rw [tb_or, tb_one (by omega) (by omega) z0, Bool.or_eq_true, hz, decide_eq_true_iff]
        constructor
        · rintro (⟨w1, w2, w3⟩ | w)
          · exact ⟨w1, by omega, w3⟩
          · subst w
            exact ⟨by omega, by omega, hw.mp hv1⟩
        · rintro ⟨w1, w2, w3⟩
          by_cases qz : z = ((c : Nat) : Int)
          · exact Or.inr qz
          · exact Or.inl ⟨w1, by omega, w3⟩
  have outer : ∀ (d g : Nat) (σ1 : jS), g + d = G → sq [(4000, tx), (10009, tx)] σ σ1 → (∀ z : Int, 0 ≤ z → z < ((g : Nat) : Int) → bse (ra σ1 10009 tx z) (fun c => 0 ≤ c ∧ c < ((G : Nat) : Int) ∧ becm (R z) (R c))) → J n c_Text_settle none 2 [some (jo 10 tx), some (ji ((g : Nat) : Int)), none] [] σ1 (qV Q) := by
    intro d
    induction d with
    | zero =>
      intro g σ1 hg e1 hb
      have eg : g = G := by omega
      subst eg
      refine wp_Text_settle_2 ⟨by omega, ?_⟩
      rw [e1.nrs 10001 tx (by simp), hG, if_pos (Int.le_refl _)]
      exact hq σ1 e1 hb
    | succ d ih =>
      intro g σ1 hg e1 hb
      refine wp_Text_settle_2 ⟨by omega, ?_⟩
      rw [e1.nrs 10001 tx (by simp), hG, if_neg (by omega), e1.nrl 10009 tx, l9]
      refine ⟨by omega, by omega, by omega, fun s3 e3 => ?_⟩
      have f3 : sq [(10009, tx)] σ1 s3 := by rw [e3]; exact (sq.rf _ σ1).pwa 10009 tx _ _ (List.contains_iff_mem.mpr List.mem_cons_self)
      have r3 : ∀ z : Int, ra s3 10009 tx z = if z = ((g : Nat) : Int) then 0 else ra σ1 10009 tx z := fun z => by
        rw [e3]
        unfold wa
        rw [raf_wA, if_pos ⟨rfl, rfl⟩]
        rfl
      clear e3
      refine inner G 0 g s3 (by omega) (by omega) (e1.tr (f3.mo (by simp))) ?_ (fun σ2 e2 h2 hb2 => ?_)
      · rw [r3, if_pos rfl]
        exact ⟨⟨by decide, by decide⟩, fun z z0 z1 => by
          rw [tb_0]
          exact ⟨fun w => (by cases w), fun w => absurd w.2.1 (by omega)⟩⟩
      · rw [show ((g : Nat) : Int) + 1 = ((g + 1 : Nat) : Int) by omega]
        refine ih (g + 1) σ2 (by omega) e2 (fun z z0 z1 => ?_)
        by_cases qz : z = ((g : Nat) : Int)
        · rw [qz]; exact hb2
        · rw [h2 z qz, r3, if_neg qz]
          exact hb z z0 (by omega)
  refine wp_Text_settle ?_
  exact outer G 0 σ (by omega) (sq.rf _ σ) (fun z z0 z1 => absurd z1 (by omega))
end ZSe
