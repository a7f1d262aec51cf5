/-! The plan's open places are the tree's, where each row of the plan stands in the tree. -/
def gPl (g : Int → Int) (u : Int × Int) : Int × Int := (g u.1, u.2)
theorem expT_inr (M : zM) (m : Nat) (t : List zI) : expT M (.inr m :: t) = memT M m ++ expT M t := by
  unfold expT
  rw [List.flatMap_cons]
theorem stW_exp {M : zM} {g : Int → Int} : ∀ (t : List zI) (p q : Int) (st : List (Int × Int)), (∀ m : Nat, .inr m ∈ t → rdA ((memT M m).map arZ) 1 = some []) → (∀ i : Nat, i < t.length → g (p + (i : Nat)) = q + ((expT M (t.take i)).length : Nat)) → (∀ i : Nat, i < t.length → ¬ stP p st (t.take i) = []) → stW q (st.map (gPl g)) (expT M t) = (stP p st t).map (gPl g) := by
  intro t
  induction t with
  | nil => intro p q st _ _ _; rfl
  | cons y t ih =>
    intro p q st hM hg hs
    have hg0 : g p = q := by
      have := hg 0 (by rw [List.length_cons]; omega)
      rw [show p + ((0 : Nat) : Int) = p by omega] at this
      rw [this]
      show q + ((0 : Nat) : Int) = q
      omega
    cases y with
    | inl z =>
      rw [expT_inl]
      show stW (q + 1) ((List.range z.2.2.2.2.2.1.toNat).map (fun k : Nat => (q, (k : Int))) ++ (st.map (gPl g)).tail) (expT M t) = (stP (p + 1) ((List.range z.2.2.2.2.2.1.toNat).map (fun k : Nat => (p, (k : Int))) ++ st.tail) t).map (gPl g)
      have e : (List.range z.2.2.2.2.2.1.toNat).map (fun k : Nat => (q, (k : Int))) ++ (st.map (gPl g)).tail = ((List.range z.2.2.2.2.2.1.toNat).map (fun k : Nat => (p, (k : Int))) ++ st.tail).map (gPl g) := by
        rw [List.map_append, List.map_map, List.map_tail]
        congr 1
        refine List.map_congr_left (fun k _ => ?_)
        show (q, (k : Int)) = (g p, (k : Int))
        rw [hg0]
      rw [e]
      refine ih (p + 1) (q + 1) _ (fun m hm => hM m (List.mem_cons_of_mem _ hm)) (fun i hi => ?_) (fun i hi => ?_)
      · have := hg (i + 1) (by rw [List.length_cons]; omega)
        rw [List.take_succ_cons, expT_inl, List.length_cons, show p + ((i + 1 : Nat) : Int) = p + 1 + ((i : Nat) : Int) by omega] at this
        rw [this]
        omega
      · exact hs (i + 1) (by rw [List.length_cons]; omega)
    | inr m =>
      rw [expT_inr, stW_app]
      have hs0 := hs 0 (by rw [List.length_cons]; omega)
      cases st with
      | nil => exact absurd rfl hs0
      | cons u st =>
        have e : stW q ((u :: st).map (gPl g)) (memT M m) = st.map (gPl g) := stW_full (us := [gPl g u]) (hM m List.mem_cons_self)
        rw [e]
        show _ = (stP (p + 1) ((List.range 0).map (fun k : Nat => (p, (k : Int))) ++ st) t).map (gPl g)
        refine ih (p + 1) (q + ((memT M m).length : Nat)) st (fun m hm => hM m (List.mem_cons_of_mem _ hm)) (fun i hi => ?_) (fun i hi => ?_)
        · have := hg (i + 1) (by rw [List.length_cons]; omega)
          rw [List.take_succ_cons, expT_inr, List.length_append, show p + ((i + 1 : Nat) : Int) = p + 1 + ((i : Nat) : Int) by omega] at this
          rw [this]
          omega
        · exact hs (i + 1) (by rw [List.length_cons]; omega)
