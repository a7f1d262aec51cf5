/-! The reference's trees: rows of nodes, those of an asking and those that are kept. -/
def fr1 : List Nat := [1071, 1072, 1073, 1074, 1075, 1076, 1077, 1078, 1079, 1080, 1081, 1082, 1084, 1085, 1086, 1087, 1089, 1090, 1091, 1093, 1094]
def fr4 : List Nat := [1083, 1088, 1092]
def ndc : List Nat := [1052, 1053, 1054, 1055, 1056, 1057, 1059, 1060, 1061]
/-- what an asking may touch -/
def agF : List (Nat × Int) := [(1028, 0), (1029, 0), (1030, 0), (1031, 0), (1032, 0), (1033, 0), (1034, 0), (1035, 0), (1036, 0), (1037, 0), (1038, 0), (1039, 0), (1040, 0), (1041, 0), (1042, 0), (1043, 0), (1044, 0), (1045, 0), (1052, 0), (1053, 0), (1054, 0), (1055, 0), (1056, 0), (1057, 0), (1058, 0), (1059, 0), (1060, 0), (1061, 0), (1062, 0), (1063, 0), (1064, 0), (1065, 0), (1066, 0), (1067, 0), (1068, 0), (1069, 0), (1070, 0), (1071, 0), (1072, 0), (1073, 0), (1074, 0), (1075, 0), (1076, 0), (1077, 0), (1078, 0), (1079, 0), (1080, 0), (1081, 0), (1082, 0), (1083, 0), (1084, 0), (1085, 0), (1086, 0), (1087, 0), (1088, 0), (1089, 0), (1090, 0), (1091, 0), (1092, 0), (1093, 0), (1094, 0), (1095, 0), (1096, 0), (1097, 0), (1098, 0), (1099, 0), (1101, 0), (1102, 0), (1103, 0), (1104, 0), (1105, 0), (1106, 0), (1107, 0), (1109, 0), (1110, 0)]
/-- the frames below f stay -/
def frK (f : Int) (σ σ' : jS) : Prop := (∀ F, F ∈ fr1 → ∀ i : Int, i < f → ra σ' F 0 i = ra σ F 0 i) ∧ ∀ F, F ∈ fr4 → ∀ i : Int, i < 4 * f → ra σ' F 0 i = ra σ F 0 i
/-- nodes that are kept stay, and those of the asking below L; what is remembered stays -/
def ndK (L : Int) (σ σ' : jS) : Prop := rs σ 1063 0 ≤ rs σ' 1063 0 ∧ rs σ 1065 0 ≤ rs σ' 1065 0 ∧ rs σ 1070 0 ≤ rs σ' 1070 0 ∧ (∀ F, F ∈ ndc → ∀ n : Int, n < rs σ 1063 0 ∨ (8200 ≤ n ∧ n < L) → ra σ' F 0 n = ra σ F 0 n) ∧ (∀ n k : Int, n < rs σ 1063 0 ∨ (8200 ≤ n ∧ n < L) → 0 ≤ k → k < 4 → ra σ' 1058 0 (4 * n + k) = ra σ 1058 0 (4 * n + k)) ∧ (∀ i : Int, i < rs σ 1065 0 → ra σ' 1062 0 i = ra σ 1062 0 i) ∧ ∀ j : Int, j < rs σ 1070 0 → ra σ' 1066 0 j = ra σ 1066 0 j ∧ ra σ' 1067 0 j = ra σ 1067 0 j ∧ ra σ' 1069 0 j = ra σ 1069 0 j ∧ ∀ p : Int, p < 100 → ra σ' 1068 0 (100 * j + p) = ra σ 1068 0 (100 * j + p)
def kidL (σ : jS) (n : Int) (k : Nat) : List Int := (List.range k).map (fun j : Nat => ra σ 1058 0 (4 * n + ((j : Nat) : Int)))
def sumA (σ : jS) (ns : List Int) : Int := (ns.map (fun n => ra σ 1059 0 n)).sum
/-- a node of the reference -/
def nN (L : Int) (σ : jS) (n : Int) (z : zN) : Prop := 0 ≤ n ∧ ra σ 1052 0 n = z.1 ∧ ra σ 1053 0 n = z.2.1 ∧ ra σ 1054 0 n = z.2.2.1 ∧ ra σ 1055 0 n = z.2.2.2.1 ∧ ra σ 1056 0 n = z.2.2.2.2.1 ∧ ra σ 1057 0 n = z.2.2.2.2.2.1 ∧ (0 ≤ z.2.2.2.2.2.1 ∧ z.2.2.2.2.2.1 ≤ 4) ∧ ra σ 1059 0 n = 1 + sumA σ (kidL σ n z.2.2.2.2.2.1.toNat) ∧ match z.2.2.2.2.2.2.2 with
  | none => (8200 ≤ n ∧ n < L) ∧ ra σ 1060 0 n = z.2.2.2.2.2.2.1 ∧ ∀ k, k ∈ kidL σ n z.2.2.2.2.2.1.toNat → k < n
  | some r => n < rs σ 1063 0 ∧ (ra σ 1061 0 n = if r.length ≤ 100 then ((r.length : Nat) : Int) else 101) ∧ (r.length ≤ 100 → 0 ≤ ra σ 1060 0 n ∧ ra σ 1060 0 n + ((r.length : Nat) : Int) ≤ rs σ 1065 0 ∧ ∀ j : Nat, j < r.length → ra σ 1062 0 (ra σ 1060 0 n + ((j : Nat) : Int)) = r.getD j 0)
/-- nodes that wait are these trees, one behind another -/
def nRs (L : Int) (σ : jS) : List Int → List zI → Prop
  | [], [] => True
  | n :: ns, .inl z :: t => nN L σ n z ∧ nRs L σ (kidL σ n z.2.2.2.2.2.1.toNat ++ ns) t
  | n :: ns, .inr m :: t => (0 ≤ n ∧ n < rs σ 1063 0 ∧ ((m : Nat) : Int) < rs σ 1070 0 ∧ n = ra σ 1069 0 ((m : Nat) : Int)) ∧ nRs L σ ns t
  | [], _ :: _ => False
  | _ :: _, [] => False
/-- what lies below kept nodes is kept -/
def kcl (σ : jS) : Prop := ∀ m : Int, 0 ≤ m → m < rs σ 1063 0 → ra σ 1057 0 m ≤ 4 ∧ ∀ j : Int, 0 ≤ j → j < ra σ 1057 0 m → ra σ 1058 0 (4 * m + j) < rs σ 1063 0
/-- the remembered goals, as the reference keeps them -/
def mMem (σ : jS) (M : zM) : Prop := rs σ 1070 0 = ((M.length : Nat) : Int) ∧ M.length ≤ 40 ∧ (∀ j, (h : j < M.length) → ra σ 1066 0 ((j : Nat) : Int) = (M[j]).1 ∧ ra σ 1067 0 ((j : Nat) : Int) = ((M[j]).2.1.length : Nat) ∧ (M[j]).2.1.length ≤ 100 ∧ (∀ p : Nat, p < (M[j]).2.1.length → ra σ 1068 0 (100 * ((j : Nat) : Int) + ((p : Nat) : Int)) = (M[j]).2.1.getD p 0) ∧ (M[j]).2.2.length ≤ 200 ∧ (if (M[j]).2.2 = [] then ra σ 1069 0 ((j : Nat) : Int) = -1 else nRs 8200 σ [ra σ 1069 0 ((j : Nat) : Int)] ((M[j]).2.2.map Sum.inl))) ∧ (0 ≤ rs σ 1063 0 ∧ rs σ 1063 0 ≤ 200 * ((M.length : Nat) : Int)) ∧ 0 ≤ rs σ 1065 0 ∧ rs σ 1065 0 ≤ 100 * rs σ 1063 0 ∧ kcl σ
section ZNa
variable {n : Nat} {σ σ1 σ2 : jS} {L L' : Int} {M : zM}
theorem frK.rf (f : Int) (σ : jS) : frK f σ σ := ⟨fun _ _ _ _ => rfl, fun _ _ _ _ => rfl⟩
theorem frK.tr {f : Int} (h : frK f σ σ1) (h' : frK f σ1 σ2) : frK f σ σ2 := ⟨fun F hF i hi => (h'.1 F hF i hi).trans (h.1 F hF i hi), fun F hF i hi => (h'.2 F hF i hi).trans (h.2 F hF i hi)⟩
theorem frK.mo {f f' : Int} (h : frK f σ σ1) (hf : f' ≤ f) : frK f' σ σ1 := ⟨fun F hF i hi => h.1 F hF i (by omega), fun F hF i hi => h.2 F hF i (by omega)⟩
theorem ndK.rf (L : Int) (σ : jS) : ndK L σ σ := ⟨Int.le_refl _, Int.le_refl _, Int.le_refl _, fun _ _ _ _ => rfl, fun _ _ _ _ _ => rfl, fun _ _ => rfl, fun _ _ => ⟨rfl, rfl, rfl, fun _ _ => rfl⟩⟩
theorem ndK.tr (h : ndK L σ σ1) (h' : ndK L σ1 σ2) : ndK L σ σ2 := by
  obtain ⟨a1, a2, a3, a4, a5, a6, a7⟩ := h
  obtain ⟨b1, b2, b3, b4, b5, b6, b7⟩ := h'
  refine ⟨by omega, by omega, by omega, fun F hF n hn => (b4 F hF n (by omega)).trans (a4 F hF n hn), fun n k hn k0 k1 => (b5 n k (by omega) k0 k1).trans (a5 n k hn k0 k1), fun i hi => (b6 i (by omega)).trans (a6 i hi), fun j hj => ?_⟩
  obtain ⟨c1, c2, c3, c4⟩ := a7 j hj
  obtain ⟨d1, d2, d3, d4⟩ := b7 j (by omega)
  exact ⟨d1.trans c1, d2.trans c2, d3.trans c3, fun p hp => (d4 p hp).trans (c4 p hp)⟩
theorem ndK.mo (h : ndK L σ σ1) (hL : L' ≤ L) : ndK L' σ σ1 := by
  obtain ⟨a1, a2, a3, a4, a5, a6, a7⟩ := h
  exact ⟨a1, a2, a3, fun F hF n hn => a4 F hF n (by omega), fun n k hn => a5 n k (by omega), a6, a7⟩
/-- rows and numbers that are not of nodes, nor of what is remembered -/
theorem sq.ndK {l : List (Nat × Int)} (e : sq l σ σ1) (hl : (([(1052, 0), (1053, 0), (1054, 0), (1055, 0), (1056, 0), (1057, 0), (1058, 0), (1059, 0), (1060, 0), (1061, 0), (1062, 0), (1063, 0), (1065, 0), (1066, 0), (1067, 0), (1068, 0), (1069, 0), (1070, 0)] : List (Nat × Int)).all (fun p => !l.contains p)) = true) : ndK L σ σ1 := by
  have hm : ∀ p, p ∈ ([(1052, 0), (1053, 0), (1054, 0), (1055, 0), (1056, 0), (1057, 0), (1058, 0), (1059, 0), (1060, 0), (1061, 0), (1062, 0), (1063, 0), (1065, 0), (1066, 0), (1067, 0), (1068, 0), (1069, 0), (1070, 0)] : List (Nat × Int)) → l.contains p = false := fun p hp => by
    have := List.all_eq_true.mp hl p hp
    simpa using this
  have hn : ∀ F, F ∈ ndc → ((F, 0) : Nat × Int) ∈ ([(1052, 0), (1053, 0), (1054, 0), (1055, 0), (1056, 0), (1057, 0), (1058, 0), (1059, 0), (1060, 0), (1061, 0), (1062, 0), (1063, 0), (1065, 0), (1066, 0), (1067, 0), (1068, 0), (1069, 0), (1070, 0)] : List (Nat × Int)) := by decide
  refine ⟨by rw [e.nrs 1063 0 (hm _ (by decide))]; exact Int.le_refl _, by rw [e.nrs 1065 0 (hm _ (by decide))]; exact Int.le_refl _, by rw [e.nrs 1070 0 (hm _ (by decide))]; exact Int.le_refl _, fun F hF n _ => e.nra F 0 n (hm _ (hn F hF)), fun n k _ _ _ => e.nra 1058 0 _ (hm _ (by decide)), fun i _ => e.nra 1062 0 i (hm _ (by decide)), fun j _ => ⟨e.nra 1066 0 j (hm _ (by decide)), e.nra 1067 0 j (hm _ (by decide)), e.nra 1069 0 j (hm _ (by decide)), fun p _ => e.nra 1068 0 _ (hm _ (by decide))⟩⟩
theorem sq.frK {l : List (Nat × Int)} {f : Int} (e : sq l σ σ1) (hl : (fr1.all (fun F => !l.contains (F, 0)) && fr4.all (fun F => !l.contains (F, 0))) = true) : frK f σ σ1 := by
  rw [Bool.and_eq_true] at hl
  refine ⟨fun F hF i _ => e.nra F 0 i ?_, fun F hF i _ => e.nra F 0 i ?_⟩
  · have := List.all_eq_true.mp hl.1 F hF
    simpa using this
  · have := List.all_eq_true.mp hl.2 F hF
    simpa using this
theorem kidL_len (σ : jS) (n : Int) (k : Nat) : (kidL σ n k).length = k := by unfold kidL; rw [List.length_map, List.length_range]
theorem sumA_app (a b : List Int) : sumA σ (a ++ b) = sumA σ a + sumA σ b := by unfold sumA; rw [List.map_append, List.sum_append]
theorem sumA_cons (n : Int) (b : List Int) : sumA σ (n :: b) = ra σ 1059 0 n + sumA σ b := by unfold sumA; rw [List.map_cons, List.sum_cons]
theorem nRs_app : ∀ {t1 t2 : List zI} {n1 n2 : List Int}, nRs L σ n1 t1 → nRs L σ n2 t2 → nRs L σ (n1 ++ n2) (t1 ++ t2) := by
  intro t1
  induction t1 with
  | nil =>
    intro t2 n1 n2 h h'
    cases n1 with
    | nil => exact h'
    | cons n n1 => exact False.elim h
  | cons y t1 ih =>
    intro t2 n1 n2 h h'
    cases n1 with
    | nil => exact False.elim h
    | cons n n1 =>
      cases y with
      | inl z =>
        obtain ⟨c1, c2⟩ := h
        refine ⟨c1, ?_⟩
        show nRs L σ (kidL σ n z.2.2.2.2.2.1.toNat ++ (n1 ++ n2)) (t1 ++ t2)
        rw [← List.append_assoc]
        exact ih c2 h'
      | inr m =>
        obtain ⟨c1, c2⟩ := h
        exact ⟨c1, ih c2 h'⟩
theorem nRs_split : ∀ {t : List zI} {n1 n2 : List Int}, nRs L σ (n1 ++ n2) t → ∃ t1 t2, t = t1 ++ t2 ∧ nRs L σ n1 t1 ∧ nRs L σ n2 t2 := by
  intro t
  induction t with
  | nil =>
    intro n1 n2 h
    cases n1 with
    | nil => exact ⟨[], [], rfl, trivial, h⟩
    | cons n n1 => exact False.elim h
  | cons y t ih =>
    intro n1 n2 h
    cases n1 with
    | nil => exact ⟨[], y :: t, rfl, trivial, h⟩
    | cons n n1 =>
      cases y with
      | inl z =>
        obtain ⟨c1, c2⟩ := h
        have c2' : nRs L σ ((kidL σ n z.2.2.2.2.2.1.toNat ++ n1) ++ n2) t := by
          rw [List.append_assoc]; exact c2
        obtain ⟨t1, t2, e, d1, d2⟩ := ih c2'
        exact ⟨.inl z :: t1, t2, by rw [e]; rfl, ⟨c1, d1⟩, d2⟩
      | inr m =>
        obtain ⟨c1, c2⟩ := h
        obtain ⟨t1, t2, e, d1, d2⟩ := ih c2
        exact ⟨.inr m :: t1, t2, by rw [e]; rfl, ⟨c1, d1⟩, d2⟩
/-- a node that is kept, or of the asking below L -/
theorem nN.lt {m : Int} {z : zN} (h : nN L σ m z) : m < rs σ 1063 0 ∨ (8200 ≤ m ∧ m < L) := by
  obtain ⟨-, -, -, -, -, -, -, -, -, h10⟩ := h
  cases hz : z.2.2.2.2.2.2.2 with
  | none => rw [hz] at h10; exact Or.inr h10.1
  | some r => rw [hz] at h10; exact Or.inl h10.1
theorem kidL_K (e : ndK L σ σ1) {m : Int} (hm : m < rs σ 1063 0 ∨ (8200 ≤ m ∧ m < L)) {k : Nat} (hk : k ≤ 4) : kidL σ1 m k = kidL σ m k := by
  unfold kidL
  refine List.map_congr_left (fun j hj => ?_)
  have := List.mem_range.mp hj
  exact e.2.2.2.2.1 m _ hm (by omega) (by omega)
/-- the nodes that wait are nodes that stay -/
def stys (L : Int) (σ : jS) (ns : List Int) : Prop := ∀ n, n ∈ ns → n < rs σ 1063 0 ∨ (8200 ≤ n ∧ n < L)
theorem sumA_K (e : ndK L σ σ1) : ∀ {ns : List Int}, stys L σ ns → sumA σ1 ns = sumA σ ns := by
  intro ns
  induction ns with
  | nil => intro _; rfl
  | cons n ns ih =>
    intro h
    rw [sumA_cons, sumA_cons, ih (fun m hm => h m (List.mem_cons_of_mem _ hm)), e.2.2.2.1 1059 (by decide) n (h n List.mem_cons_self)]
end ZNa
