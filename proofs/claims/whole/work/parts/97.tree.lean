/-! A tree's open places, the tree standing further on. -/
theorem stW_shift {d : Int} : ∀ (t : List zN) (p : Int) (st : List (Int × Int)), stW (d + p) (st.map (gPl (fun r => d + r))) t = (stW p st t).map (gPl (fun r => d + r)) := by
  intro t
  induction t with
  | nil => intro p st; rfl
  | cons z t ih =>
    intro p st
    show stW (d + p + 1) ((List.range z.2.2.2.2.2.1.toNat).map (fun k : Nat => (d + p, (k : Int))) ++ (st.map (gPl (fun r => d + r))).tail) t = (stW (p + 1) ((List.range z.2.2.2.2.2.1.toNat).map (fun k : Nat => (p, (k : Int))) ++ st.tail) t).map (gPl (fun r => d + r))
    rw [← ih, List.map_append, List.map_map, List.map_tail, show d + p + 1 = d + (p + 1) by omega]
    congr 1
/-- behind its first row -/
theorem stW_shift1 {d a b : Int} {z : zN} {t : List zN} : stW d [(a, b)] (z :: t) = (stW 0 [(-1, -1)] (z :: t)).map (gPl (fun r => d + r)) := by
  show stW (d + 1) ((List.range z.2.2.2.2.2.1.toNat).map (fun k : Nat => (d, (k : Int))) ++ []) t = (stW (0 + 1) ((List.range z.2.2.2.2.2.1.toNat).map (fun k : Nat => ((0 : Int), (k : Int))) ++ []) t).map (gPl (fun r => d + r))
  rw [← stW_shift, List.append_nil, List.append_nil, List.map_map]
  have e : (List.range z.2.2.2.2.2.1.toNat).map (fun k : Nat => (d, (k : Int))) = (List.range z.2.2.2.2.2.1.toNat).map ((gPl (fun r => d + r)) ∘ (fun k : Nat => ((0 : Int), (k : Int)))) := by
    refine List.map_congr_left (fun k _ => ?_)
    show (d, (k : Int)) = (d + 0, (k : Int))
    rw [Int.add_zero]
  rw [e, show d + (0 + 1) = d + 1 by omega]
