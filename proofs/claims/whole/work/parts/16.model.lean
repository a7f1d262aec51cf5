/-! The reference: its object at M, its arrays behind it in the order of the fields; f, a, w by the numbers of the fields. -/
def mx_K : List (Option Nat) := [some 0, none, none, none, some 1, some 2, none, none, some 3, some 4, some 5, some 6, some 7, none, none, none, none, some 8, some 9, some 10, some 11, some 12, some 13, none, none, none, some 14, some 15, some 16, some 17, some 18, some 19, some 20, none, none, none, some 21, some 22, none, some 23, some 24, some 25, some 26, none, none, none, some 27, some 28, some 29, none, none, none, some 30, some 31, some 32, some 33, some 34, some 35, some 36, some 37, some 38, some 39, some 40, none, none, none, some 41, some 42, some 43, some 44, none, some 45, some 46, some 47, some 48, some 49, some 50, some 51, some 52, some 53, some 54, some 55, some 56, some 57, some 58, some 59, some 60, some 61, some 62, some 63, some 64, some 65, some 66, some 67, some 68, some 69, some 70, none, none, none, none, none, none, none, none, none, none, none, none, some 71, some 72, none, some 73, some 74, some 75, some 76, some 77, some 78, some 79, some 80, some 81, some 82, some 83, some 84, some 85, some 86, none, none, none, none, some 87, some 88, some 89, none, some 90, some 91, some 92, some 93, some 94, some 95, some 96, some 97, some 98, some 99]
def mx_T : List (Nat × Nat × Nat) := [(0, 1, 800), (4, 0, 12), (5, 0, 12), (8, 0, 8), (9, 0, 24), (10, 0, 24), (11, 0, 1440), (12, 0, 120), (17, 0, 8), (18, 0, 24), (19, 0, 24), (20, 0, 1440), (21, 0, 120), (22, 0, 6), (26, 2, 576), (27, 0, 26), (28, 0, 40000), (29, 0, 40000), (30, 0, 40000), (31, 0, 40000), (32, 0, 20000), (36, 0, 26), (37, 0, 2000), (39, 0, 4000), (40, 0, 4000), (41, 0, 101), (42, 0, 101), (46, 0, 48), (47, 0, 4), (48, 0, 12), (52, 0, 8420), (53, 0, 8420), (54, 0, 8420), (55, 0, 8420), (56, 0, 8420), (57, 0, 8420), (58, 0, 33680), (59, 0, 8420), (60, 0, 8420), (61, 0, 8420), (62, 0, 820000), (66, 0, 40), (67, 0, 40), (68, 0, 4000), (69, 0, 40), (71, 0, 21), (72, 2, 21), (73, 0, 21), (74, 0, 21), (75, 0, 21), (76, 0, 21), (77, 0, 21), (78, 0, 21), (79, 0, 21), (80, 0, 21), (81, 0, 21), (82, 0, 21), (83, 0, 84), (84, 0, 21), (85, 0, 21), (86, 0, 21), (87, 0, 21), (88, 0, 84), (89, 0, 21), (90, 0, 21), (91, 0, 21), (92, 0, 84), (93, 0, 21), (94, 0, 21), (95, 0, 20000), (96, 0, 20000), (109, 0, 220), (110, 0, 900), (112, 0, 9), (113, 0, 200), (114, 0, 200), (115, 0, 200), (116, 0, 200), (117, 0, 200), (118, 0, 200), (119, 0, 200), (120, 0, 200), (121, 0, 200), (122, 0, 200), (123, 0, 20000), (124, 0, 200), (125, 0, 100), (130, 0, 900), (131, 0, 900), (132, 1, 2000), (134, 0, 220), (135, 0, 4), (136, 0, 4), (137, 0, 4), (138, 0, 16), (139, 0, 4), (140, 0, 4), (141, 0, 4), (142, 3, 4), (143, 3, 4)]
def mx_F (M : Nat) (f : Nat → Int32) (k : Nat) : Value := match mx_K[k]? with
  | some (some r) => .ref (M + 1 + r)
  | _ => .int (f k)
def mx_c (a : Nat → Nat → Int32) (w : Nat → Nat → Int64) (q : Nat × Nat × Nat) : ax_E := .inl (q.2.1, q.2.2, if q.2.1 = 3 then .inr (.inl (w q.1)) else .inl (a q.1))
def mx_H (h : ax_H) (M : Nat) (f : Nat → Int32) (a : Nat → Nat → Int32) (w : Nat → Nat → Int64) : ax_H := (h.1, h.2.1, fun j => if j = M then .inr (1, mx_F M f) else if M < j then (match mx_T[j - M - 1]? with
  | some q => mx_c a w q
  | none => h.2.2 j) else h.2.2 j)
def mx_u {α : Type} (a : Nat → Nat → α) (k : Nat) (x : Nat → α) : Nat → Nat → α := fun j => if j = k then x else a j
section MX
variable {h : ax_H} {M : Nat} {f : Nat → Int32} {a : Nat → Nat → Int32} {w : Nat → Nat → Int64}
theorem mx_o : (mx_H h M f a w).2.2 M = .inr (1, mx_F M f) := by
  show (if M = M then _ else _) = _
  rw [if_pos rfl]
theorem mx_q {r : Nat} {q : Nat × Nat × Nat} (ht : mx_T[r]? = some q) : (mx_H h M f a w).2.2 (M + 1 + r) = mx_c a w q := by
  show (if M + 1 + r = M then _ else if M < M + 1 + r then _ else _) = _
  rw [if_neg (by omega), if_pos (by omega), show M + 1 + r - M - 1 = r by omega, ht]
theorem mx_a {r k t n : Nat} (ht : mx_T[r]? = some (k, t, n)) (h3 : ¬ t = 3) : (mx_H h M f a w).2.2 (M + 1 + r) = .inl (t, n, .inl (a k)) := by
  rw [mx_q ht]
  show (.inl (t, n, if t = 3 then _ else _) : ax_E) = _
  rw [if_neg h3]
theorem mx_w {r k n : Nat} (ht : mx_T[r]? = some (k, 3, n)) : (mx_H h M f a w).2.2 (M + 1 + r) = .inl (3, n, .inr (.inl (w k))) := mx_q ht
theorem mx_Fi {k : Nat} (hk : mx_K[k]? = some none) : mx_F M f k = .int (f k) := by unfold mx_F; rw [hk]
theorem mx_Fa {k r : Nat} (hk : mx_K[k]? = some (some r)) : mx_F M f k = .ref (M + 1 + r) := by unfold mx_F; rw [hk]
theorem mx_put {k : Nat} {v : Int32} (hk : mx_K[k]? = some none) : ax_set (mx_H h M f a w) M (.inr (1, va_up (mx_F M f) k (.int v))) = mx_H h M (upd f k v) a w := by
  unfold ax_set mx_H
  dsimp only
  refine congrArg (fun g => (h.1, h.2.1, g)) (funext fun j => ?_)
  unfold va_up
  dsimp only
  by_cases e : j = M
  · rw [if_pos e, if_pos e]
    refine congrArg (fun g => (Sum.inr (1, g) : ax_E)) (funext fun i => ?_)
    by_cases e2 : i = k
    · subst e2
      rw [if_pos rfl, mx_Fi hk]
      simp [upd]
    · rw [if_neg e2]
      unfold mx_F
      simp [upd, e2]
  · rw [if_neg e, if_neg e, if_neg e]
theorem mx_T_nd : (mx_T.map (fun q => q.1)).Nodup := by decide +kernel
theorem mx_T_inj {r r' k t n t' n' : Nat} (h1 : mx_T[r]? = some (k, t, n)) (h2 : mx_T[r']? = some (k, t', n')) : r = r' := by
  have e1 : (mx_T.map (fun q => q.1))[r]? = some k := by rw [List.getElem?_map, h1]; rfl
  have e2 : (mx_T.map (fun q => q.1))[r']? = some k := by rw [List.getElem?_map, h2]; rfl
  have hh := List.pairwise_iff_getElem.mp mx_T_nd
  obtain ⟨l1, g1⟩ := List.getElem?_eq_some_iff.mp e1
  obtain ⟨l2, g2⟩ := List.getElem?_eq_some_iff.mp e2
  rcases Nat.lt_trichotomy r r' with q | q | q
  · exact absurd (g1.trans g2.symm) (hh r r' l1 l2 q)
  · exact q
  · exact absurd (g2.trans g1.symm) (hh r' r l2 l1 q)
theorem mx_sta {r k t n : Nat} {x : Nat → Int32} (ht : mx_T[r]? = some (k, t, n)) (h3 : ¬ t = 3) : ax_set (mx_H h M f a w) (M + 1 + r) (.inl (t, n, .inl x)) = mx_H h M f (mx_u a k x) w := by
  unfold ax_set mx_H
  dsimp only
  refine congrArg (fun g => (h.1, h.2.1, g)) (funext fun j => ?_)
  unfold va_up
  dsimp only
  by_cases e : j = M + 1 + r
  · subst e
    rw [if_pos rfl, if_neg (by omega), if_pos (by omega), show M + 1 + r - M - 1 = r by omega, ht]
    show _ = (.inl (t, n, if t = 3 then _ else _) : ax_E)
    rw [if_neg h3]
    simp [mx_u]
  · rw [if_neg e]
    by_cases e2 : j = M
    · rw [if_pos e2, if_pos e2]
    · rw [if_neg e2, if_neg e2]
      by_cases e3 : M < j
      · rw [if_pos e3, if_pos e3]
        cases hq : mx_T[j - M - 1]? with
        | none => rfl
        | some q =>
          obtain ⟨k2, t2, n2⟩ := q
          have hk : ¬ k2 = k := by
            intro e4
            subst e4
            have := mx_T_inj hq ht
            omega
          show mx_c a w (k2, t2, n2) = mx_c (mx_u a k x) w (k2, t2, n2)
          unfold mx_c mx_u
          simp [hk]
      · rw [if_neg e3, if_neg e3]
theorem mx_stw {r k n : Nat} {x : Nat → Int64} (ht : mx_T[r]? = some (k, 3, n)) : ax_set (mx_H h M f a w) (M + 1 + r) (.inl (3, n, .inr (.inl x))) = mx_H h M f a (mx_u w k x) := by
  unfold ax_set mx_H
  dsimp only
  refine congrArg (fun g => (h.1, h.2.1, g)) (funext fun j => ?_)
  unfold va_up
  dsimp only
  by_cases e : j = M + 1 + r
  · subst e
    rw [if_pos rfl, if_neg (by omega), if_pos (by omega), show M + 1 + r - M - 1 = r by omega, ht]
    show _ = (.inl (3, n, if 3 = 3 then _ else _) : ax_E)
    rw [if_pos rfl]
    simp [mx_u]
  · rw [if_neg e]
    by_cases e2 : j = M
    · rw [if_pos e2, if_pos e2]
    · rw [if_neg e2, if_neg e2]
      by_cases e3 : M < j
      · rw [if_pos e3, if_pos e3]
        cases hq : mx_T[j - M - 1]? with
        | none => rfl
        | some q =>
          obtain ⟨k2, t2, n2⟩ := q
          have hk : ¬ k2 = k := by
            intro e4
            subst e4
            have := mx_T_inj hq ht
            omega
          show mx_c a w (k2, t2, n2) = mx_c a (mx_u w k x) (k2, t2, n2)
          unfold mx_c mx_u
          simp [hk]
      · rw [if_neg e3, if_neg e3]
end MX
