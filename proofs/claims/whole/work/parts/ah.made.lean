/-! The class is made: its types. -/
section ZAh
variable {n : Nat} {σ : jS} {L B t0 t1 C Z o : Int} {fs fl fa : List ((Nat × Int) × Int)} {ks : List (Nat × Int)}
theorem k_type1 {Q : jS → Prop} {i : Int} (hn : 3 ≤ n) (K : kn fs fl fa ((0, o) :: ks) B t0 t1 C Z L σ) (i0 : 0 ≤ i) (i1 : i < 4) (o0 : 242 ≤ o) (o1 : o < 300) (h1 : kf fl 12001 0 = some 4) (h2 : kf fa 12001 0 = none) (hB : B ≤ o) (hf : (fs.all (fun p => !(decide (p.1.1 / 1000 = 0) && decide (p.1.2 = o)))) = true) (h3 : kf fl 0 o = none)
    (hq : ∀ σ', kn (((1, o), 1) :: (kd 0 o ++ fs)) (((0, o), 12) :: fl) (((0, o), if 0 = 4 then -1 else 0) :: fa) ((0, o + 1) :: (0, o) :: ks) B t0 t1 (C + 1 + 1) (Z + (ax_nf 0 : Nat) + 12) L σ' → ra σ' 12001 0 = upI (ra σ 12001 0) i o → J n c_Top_init none 159 [some (jo 12 0), some (ji (i + 1))] [] σ' (qV Q)) : J n c_Top_init none 159 [some (jo 12 0), some (ji i)] [] σ (qV Q) := by
  have l1 := K.l (F := 12001) (o := 0) (by decide) h1
  have hko : rk σ 0 = o := K.k rfl
  refine wp_Top_init_159 ?_
  rw [if_neg (by omega), l1, hko]
  refine ⟨by decide, by decide, by omega, by omega, fun s7 e7 => ⟨by omega, wp_Flat_init ⟨by omega, by omega, by decide, by decide, fun s8 e8 => ?_⟩⟩⟩
  have K7 := K.mO e7 rfl hf
  rw [show max (12 : Int) 1 = 12 by decide] at e8
  refine ⟨K7.neg e8 (by decide) h3 (by omega), fun s9 e9 => ?_⟩
  have K9 := K7.na e8 e9 (by decide) h3 (by omega) (by omega)
  have r9 : ra s9 12001 0 = ra σ 12001 0 := by
    rw [e9, raf_mA, if_neg (fun w => by have := w.1; omega), e8, raf_nA, if_neg (fun w => by have := w.1; unfold jtmp at this; omega), e7]
    rfl
  have l9 : rl s9 12001 0 = 4 := K9.l (by decide) (by
    show (if 12001 = 0 ∧ (0 : Int) = o then some (12 : Int) else kf fl 12001 0) = some 4
    rw [if_neg (fun w => absurd w.1 (by decide))]
    exact h1)
  rw [l9]
  refine ⟨by omega, i0, by omega, fun s13 e13 => ?_⟩
  have n12 : kf (((0, o), if (0 : Nat) = 4 then (-1 : Int) else 0) :: fa) 12001 0 = none := by
    show (if 12001 = 0 ∧ (0 : Int) = o then some (if (0 : Nat) = 4 then (-1 : Int) else 0) else kf fa 12001 0) = none
    rw [if_neg (fun w => absurd w.1 (by decide))]
    exact h2
  have K13 := K9.mR e13 (Or.inl n12) (by decide) (by decide)
  have l13 : rl s13 12001 0 = 4 := by rw [e13]; exact l9
  have r13 : ra s13 12001 0 = upI (ra σ 12001 0) i o := by
    rw [e13]
    unfold wa
    rw [raf_wA, if_pos ⟨rfl, rfl⟩, r9]
  rw [l13, r13, show upI (ra σ 12001 0) i o i = o by unfold upI; rw [if_pos rfl]]
  refine ⟨by decide, by omega, by omega, ?_⟩
  refine K13.fadd (by omega) ?_ ?_ ?_ (fun σ' K' r' => ⟨⟨by omega, by omega⟩, hq σ' K' (r'.trans r13)⟩)
  · have e : kd 0 o = [((0, o), -1), ((1, o), 0)] := rfl
    rw [e]
    show (if 1 = 0 ∧ o = o then some (-1 : Int) else if 1 = 1 ∧ o = o then some 0 else kf fs 1 o) = some 0
    rw [if_neg (fun w => absurd w.1 (by decide)), if_pos ⟨rfl, rfl⟩]
  · show (if 0 = 0 ∧ o = o then some (12 : Int) else kf fl 0 o) = some 12
    rw [if_pos ⟨rfl, rfl⟩]
  · show (if 0 = 0 ∧ o = o then some (if (0 : Nat) = 4 then (-1 : Int) else 0) else kf fa 0 o) = some 0
    rw [if_pos ⟨rfl, rfl⟩]
    rfl
end ZAh
