/-! What the fields hold: 0 numbers, 1 rows, 2 and more ids of objects; the kinds of rows; rows that are put anew. -/
def jkT : List (List Nat) := [[1, 0], [1, 0, 0, 0, 1, 1, 0, 0, 1, 1, 1, 1, 1, 0, 0, 0, 0, 1, 1, 1, 1, 1, 1, 0, 0, 0, 1, 1, 1, 1, 1, 1, 1, 0, 0, 0, 1, 1, 0, 1, 1, 1, 1, 0, 0, 0, 1, 1, 1, 0, 0, 0, 1, 1, 1, 1, 1, 1, 1, 1, 1, 1, 1, 0, 0, 0, 1, 1, 1, 1, 0, 1, 1, 1, 1, 1, 1, 1, 1, 1, 1, 1, 1, 1, 1, 1, 1, 1, 1, 1, 1, 1, 1, 1, 1, 1, 1, 0, 0, 0, 0, 0, 0, 0, 0, 0, 0, 0, 0, 1, 1, 0, 1, 1, 1, 1, 1, 1, 1, 1, 1, 1, 1, 1, 1, 1, 0, 0, 0, 0, 1, 1, 1, 0, 1, 1, 1, 1, 1, 1, 1, 1, 1, 1], [1, 1, 1, 0, 0], [8, 1, 0], [1], [0, 1, 1, 5, 1, 1], [0, 1], [11, 7, 1, 2, 0, 0, 8, 4, 2, 2, 1, 1, 1, 1, 0, 0, 0, 0, 0, 12], [0, 0, 1, 1], [0, 0, 0, 1, 1, 1, 1, 1, 1, 1, 1, 1, 0, 0, 0], [0, 0, 1, 1, 1, 1, 1, 6, 1, 1], [0, 1, 1], [10, 1, 2, 2, 13, 12, 12, 9, 0, 0, 0, 1, 2, 2, 5, 0, 0, 0]]
def jtT : List (List Nat) := [[0, 0], [1, 0, 0, 0, 0, 0, 0, 0, 0, 0, 0, 0, 0, 0, 0, 0, 0, 0, 0, 0, 0, 0, 0, 0, 0, 0, 2, 0, 0, 0, 0, 0, 0, 0, 0, 0, 0, 0, 0, 0, 0, 0, 0, 0, 0, 0, 0, 0, 0, 0, 0, 0, 0, 0, 0, 0, 0, 0, 0, 0, 0, 0, 0, 0, 0, 0, 0, 0, 0, 0, 0, 0, 2, 0, 0, 0, 0, 0, 0, 0, 0, 0, 0, 0, 0, 0, 0, 0, 0, 0, 0, 0, 0, 0, 0, 0, 0, 0, 0, 0, 0, 0, 0, 0, 0, 0, 0, 0, 0, 0, 0, 0, 0, 0, 0, 0, 0, 0, 0, 0, 0, 0, 0, 0, 0, 0, 0, 0, 0, 0, 0, 0, 1, 0, 0, 0, 0, 0, 0, 0, 0, 0, 3, 3], [4, 0, 0, 0, 0], [0, 0, 0], [0], [0, 0, 0, 0, 0, 4], [0, 0], [0, 0, 0, 0, 0, 0, 0, 0, 0, 0, 0, 0, 0, 0, 0, 0, 0, 0, 0, 0], [0, 0, 0, 0], [0, 0, 0, 0, 0, 0, 0, 0, 0, 0, 0, 0, 0, 0, 0], [0, 0, 0, 0, 0, 0, 0, 0, 4, 0], [0, 0, 0], [0, 4, 0, 0, 0, 0, 0, 0, 0, 0, 0, 0, 0, 0, 0, 0, 0, 0]]
def jmvT : List Nat := [9003, 9004, 9005, 9006, 9007, 6001, 3001]
/-! Numbers in place of words: values, a store by fields and owners, and what a heap of the machine shows of it. -/
abbrev jV : Type := Int ⊕ Int ⊕ (Nat × Int) ⊕ (Nat × Int)
abbrev ji (x : Int) : jV := .inl x
abbrev jl (x : Int) : jV := .inr (.inl x)
abbrev jo (c : Nat) (x : Int) : jV := .inr (.inr (.inl (c, x)))
abbrev ja (F : Nat) (o : Int) : jV := .inr (.inr (.inr (F, o)))
/-- ints and ids by field and owner; arrays; their lengths (below 0: none); how many objects of a kind; cells, slots -/
abbrev jS : Type := (Nat → Int → Int) × (Nat → Int → Int → Int) × (Nat → Int → Int) × (Nat → Int) × Int × Int
abbrev jD : Type := (Nat → Int → Nat) × (Nat → Int → Nat)
def i32 (x : Int) : Prop := -2147483648 ≤ x ∧ x < 2147483648
def i64 (x : Int) : Prop := -9223372036854775808 ≤ x ∧ x < 9223372036854775808
def rs (σ : jS) (F : Nat) (o : Int) : Int := σ.1 F o
def ra (σ : jS) (F : Nat) (o i : Int) : Int := σ.2.1 F o i
def rl (σ : jS) (F : Nat) (o : Int) : Int := σ.2.2.1 F o
def rk (σ : jS) (c : Nat) : Int := σ.2.2.2.1 c
def rc (σ : jS) : Int := σ.2.2.2.2.1
def rz (σ : jS) : Int := σ.2.2.2.2.2
def upI (g : Int → Int) (i v : Int) : Int → Int := fun j => if j = i then v else g j
def ws (σ : jS) (F : Nat) (o v : Int) : jS := ((fun F' o' => if F' = F ∧ o' = o then v else σ.1 F' o'), σ.2)
def wA (σ : jS) (F : Nat) (o : Int) (g : Int → Int) : jS := (σ.1, (fun F' o' => if F' = F ∧ o' = o then g else σ.2.1 F' o'), σ.2.2)
def wa (σ : jS) (F : Nat) (o i v : Int) : jS := wA σ F o (upI (ra σ F o) i v)
def jtmp (t : Nat) : Nat := 900000 + t
def jscr : Nat := 800000
/-- a fresh row of a kind (0 int, 1 byte, 2 boolean, 3 long, 4 ids) -/
def nA (σ : jS) (t : Nat) (n : Int) : jS := (σ.1, (fun F o => if F = jtmp t ∧ o = 0 then (fun _ => if t = 4 then -1 else 0) else σ.2.1 F o), (fun F o => if F = jtmp t ∧ o = 0 then n else σ.2.2.1 F o), σ.2.2.2.1, σ.2.2.2.2.1 + 1, σ.2.2.2.2.2 + n)
/-- the fresh row becomes that of a field -/
def mA (σ : jS) (t F : Nat) (o : Int) : jS := (σ.1, (fun F' o' => if F' = F ∧ o' = o then σ.2.1 (jtmp t) 0 else σ.2.1 F' o'), (fun F' o' => if F' = F ∧ o' = o then σ.2.2.1 (jtmp t) 0 else if F' = jtmp t ∧ o' = 0 then -1 else σ.2.2.1 F' o'), σ.2.2.2)
def jk (F : Nat) : Nat := ((jkT[F / 1000]?).bind (fun r => r[F % 1000]?)).getD 0
def jt (F : Nat) : Nat := if 900000 ≤ F then F - 900000 else ((jtT[F / 1000]?).bind (fun r => r[F % 1000]?)).getD 0
def jmv (F : Nat) : Bool := decide (900000 ≤ F) || jmvT.contains F
def nO (σ : jS) (c : Nat) : jS := ((fun F o => if F / 1000 = c ∧ o = σ.2.2.2.1 c then (if jk F = 0 then 0 else -1) else σ.1 F o), σ.2.1, σ.2.2.1, (fun c' => if c' = c then σ.2.2.2.1 c + 1 else σ.2.2.2.1 c'), σ.2.2.2.2.1 + 1, σ.2.2.2.2.2 + (ax_nf c : Nat))
def jcv (d : jD) (v : jV) : Value := match v with
  | .inl x => .int (Int32.ofInt x)
  | .inr (.inl x) => .long (Int64.ofInt x)
  | .inr (.inr (.inl (c, x))) => if x < 0 then .null else .ref (d.1 c x)
  | .inr (.inr (.inr (F, o))) => .ref (d.2 F o)
def jfv (d : jD) (σ : jS) (F : Nat) (o : Int) : Value := match jk F with
  | 0 => .int (Int32.ofInt (rs σ F o))
  | 1 => if rl σ F o < 0 then .null else .ref (d.2 F o)
  | k + 2 => if rs σ F o < 0 then .null else .ref (d.1 k (rs σ F o))
abbrev jC : Type := (Nat → Int32) ⊕ (Nat → Int64) ⊕ (Nat → UInt32) ⊕ (Nat → UInt64) ⊕ (Nat → Option Nat)
def jct (d : jD) (t : Nat) (g : Int → Int) : jC :=
  if t = 3 then .inr (.inl (fun j => Int64.ofInt (g j))) else if t = 4 then .inr (.inr (.inr (.inr (fun j => if g j < 0 then none else some (d.1 0 (g j)))))) else .inl (fun j => Int32.ofInt (g j))
def jWF (σ : jS) : Prop := (∀ F o, i32 (rs σ F o)) ∧ (∀ F o i, i32 (ra σ F o i)) ∧ (∀ F o k, jk F = k + 2 → rs σ F o < rk σ k) ∧ (∀ F o i, jt F = 4 → ra σ F o i < rk σ 0) ∧ (∀ c, 0 ≤ rk σ c ∧ rk σ c ≤ 2000000) ∧ (∀ F o, rl σ F o ≤ 2000000) ∧ (∀ F o, 0 ≤ rl σ F o → F < 800000 → o < rk σ (F / 1000))
def jVw (d : jD) (σ : jS) (H : ax_H) : Prop :=
  (∀ c o, 0 ≤ o → o < rk σ c → ∃ g, H.2.2 (d.1 c o) = .inr (c, g) ∧ ∀ k, k < ax_nf c → g k = jfv d σ (1000 * c + k) o) ∧
  (∀ F o, 0 ≤ rl σ F o → H.2.2 (d.2 F o) = .inl (jt F, (rl σ F o).toNat, jct d (jt F) (ra σ F o))) ∧
  (∀ c o o', 0 ≤ o → o < rk σ c → 0 ≤ o' → o' < rk σ c → d.1 c o = d.1 c o' → o = o') ∧
  (∀ F o F' o', 0 ≤ rl σ F o → 0 ≤ rl σ F' o' → d.2 F o = d.2 F' o' → F = F' ∧ o = o') ∧
  (∀ c o, 0 ≤ o → o < rk σ c → d.1 c o < H.1) ∧ (∀ F o, 0 ≤ rl σ F o → d.2 F o < H.1) ∧
  (∀ F o, 0 ≤ rl σ F o → d.2 F o = 0 → F = jscr) ∧ (H.1 : Int) = rc σ ∧ (H.2.1 : Int) = rz σ ∧ 1 ≤ H.1
/-- no fresh row is at hand -/
def jnT (σ : jS) : Prop := ∀ t, rl σ (jtmp t) 0 < 0
def jG4 (d : jD) (σ : jS) (d' : jD) (σ' : jS) : Prop := rc σ ≤ rc σ' ∧ (rc σ' = rc σ → jnT σ → jnT σ' ∧ ∀ F o, 0 ≤ rl σ F o → d'.2 F o = d.2 F o ∧ 0 ≤ rl σ' F o)
def jGd (d : jD) (σ : jS) (d' : jD) (σ' : jS) : Prop := (∀ c o, 0 ≤ o → o < rk σ c → d'.1 c o = d.1 c o) ∧ (∀ c, rk σ c ≤ rk σ' c) ∧ (∀ F o, jmv F = false → 0 ≤ rl σ F o → d'.2 F o = d.2 F o ∧ 0 ≤ rl σ' F o) ∧ jG4 d σ d' σ'
def jok (σ : jS) (v : jV) : Prop := match v with
  | .inl x => i32 x
  | .inr (.inl x) => i64 x
  | .inr (.inr (.inl (c, x))) => x < rk σ c
  | .inr (.inr (.inr (F, o))) => 0 ≤ rl σ F o
def jokL (σ : jS) (L : List (Option jV)) : Prop := ∀ v, some v ∈ L → jok σ v
def jokS (σ : jS) (S : List jV) : Prop := ∀ v, v ∈ S → jok σ v
def jrel (d : jD) (L : List (Option jV)) (Lm : ax_L) : Prop := Lm.length = L.length ∧ ∀ (i : Nat) (v : jV), L[i]? = some (some v) → Lm[i]? = some (some (jcv d v))
/-- a run, told by numbers -/
def J (n : Nat) (cd : List ax_En) (rt : Option FieldType) (pc : Nat) (L : List (Option jV)) (S : List jV) (σ : jS) (Q : Option jV → jS → Prop) : Prop :=
  ∀ d H Lm, jVw d σ H → jWF σ → jrel d L Lm → jokL σ L → jokS σ S → ∃ d' H' r σ', jVw d' σ' H' ∧ jWF σ' ∧ jGd d σ d' σ' ∧ (∀ v, r = some v → jok σ' v) ∧ Q r σ' ∧ ax_R n (100 * n) cd rt pc Lm (S.map (jcv d)) H (r.map (jcv d')) H'
def jcut (L : List (Option jV)) (i : Nat) : List (Option jV) := match i with
  | 0 => L
  | j + 1 => match L[j]? with
    | some (some (.inr (.inl _))) => L.set j none
    | _ => L
def jput (L : List (Option jV)) (i : Nat) (v : jV) : List (Option jV) := match v with
  | .inr (.inl _) => ((jcut L i).set i (some v)).set (i + 1) none
  | _ => (jcut L i).set i (some v)
def jsl (as : List jV) : List (Option jV) := match as with
  | [] => []
  | .inr (.inl x) :: as => some (.inr (.inl x)) :: none :: jsl as
  | v :: as => some v :: jsl as
def jent (nL : Nat) (as : List jV) : List (Option jV) := jsl as ++ List.replicate (nL - (jsl as).length) none
def jcat (v : jV) : Nat := match v with
  | .inr (.inl _) => 2
  | _ => 1
theorem jcv_cat (d : jD) (v : jV) : (jcv d v).category = jcat v := by
  rcases v with x | x | ⟨c, x⟩ | ⟨F, o⟩
  · rfl
  · rfl
  · show (if x < 0 then Value.null else Value.ref (d.1 c x)).category = 1
    split <;> rfl
  · rfl
theorem jG4.sm {d d' : jD} {σ σ' : jS} (h1 : rc σ' = rc σ) (h2 : ∀ F o, rl σ' F o = rl σ F o) (h3 : d'.2 = d.2) : jG4 d σ d' σ' :=
  ⟨by rw [h1]; exact Int.le_refl _, fun _ hT => ⟨fun t => by rw [h2]; exact hT t, fun F o h => ⟨by rw [h3], by rw [h2]; exact h⟩⟩⟩
theorem jGd.rf (d : jD) (σ : jS) : jGd d σ d σ := ⟨fun _ _ _ _ => rfl, fun _ => Int.le_refl _, fun _ _ _ h => ⟨rfl, h⟩, jG4.sm rfl (fun _ _ => rfl) rfl⟩
theorem jGd.tr {d d1 d2 : jD} {σ σ1 σ2 : jS} (g : jGd d σ d1 σ1) (g' : jGd d1 σ1 d2 σ2) : jGd d σ d2 σ2 :=
  ⟨fun c o h0 h => by rw [g'.1 c o h0 (Int.lt_of_lt_of_le h (g.2.1 c)), g.1 c o h0 h], fun c => Int.le_trans (g.2.1 c) (g'.2.1 c), fun F o hm h => by
    obtain ⟨e1, h1⟩ := g.2.2.1 F o hm h
    obtain ⟨e2, h2⟩ := g'.2.2.1 F o hm h1
    exact ⟨e2.trans e1, h2⟩, Int.le_trans g.2.2.2.1 g'.2.2.2.1, fun hc hT => by
    have a1 := g.2.2.2.1
    have a2 := g'.2.2.2.1
    obtain ⟨t1, q1⟩ := g.2.2.2.2 (by omega) hT
    obtain ⟨t2, q2⟩ := g'.2.2.2.2 (by omega) t1
    refine ⟨t2, fun F o h => ?_⟩
    obtain ⟨e1, h1⟩ := q1 F o h
    obtain ⟨e2, h2⟩ := q2 F o h1
    exact ⟨e2.trans e1, h2⟩⟩
def jnm (v : jV) : Prop := match v with
  | .inr (.inr (.inr (F, _))) => jmv F = false
  | _ => True
theorem jcv_gd {d d' : jD} {σ σ' : jS} {v : jV} (g : jGd d σ d' σ') (hk : jok σ v) (hm : jnm v) : jcv d' v = jcv d v ∧ jok σ' v := by
  rcases v with x | x | ⟨c, x⟩ | ⟨F, o⟩
  · exact ⟨rfl, hk⟩
  · exact ⟨rfl, hk⟩
  · refine ⟨?_, Int.lt_of_lt_of_le hk (g.2.1 c)⟩
    show (if x < 0 then Value.null else Value.ref (d'.1 c x)) = if x < 0 then Value.null else Value.ref (d.1 c x)
    by_cases h : x < 0
    · rw [if_pos h, if_pos h]
    · rw [if_neg h, if_neg h, g.1 c x (by omega) hk]
  · obtain ⟨e, h⟩ := g.2.2.1 F o hm hk
    exact ⟨congrArg Value.ref e, h⟩
def jnmL (L : List (Option jV)) : Prop := match L with
  | [] => True
  | none :: L => jnmL L
  | some (.inl _) :: L => jnmL L
  | some (.inr (.inl _)) :: L => jnmL L
  | some (.inr (.inr (.inl _))) :: L => jnmL L
  | some (.inr (.inr (.inr (F, _)))) :: L => jmv F = false ∧ jnmL L
def jnmS (S : List jV) : Prop := match S with
  | [] => True
  | .inl _ :: S => jnmS S
  | .inr (.inl _) :: S => jnmS S
  | .inr (.inr (.inl _)) :: S => jnmS S
  | .inr (.inr (.inr (F, _))) :: S => jmv F = false ∧ jnmS S
theorem jnmL_at : ∀ {L : List (Option jV)}, jnmL L → ∀ v, some v ∈ L → jnm v := by
  intro L
  induction L with
  | nil => intro _ v hv; cases hv
  | cons a L ih =>
    intro h v hv
    rcases a with _ | x | x | ⟨c, x⟩ | ⟨F, o⟩
    all_goals
      rcases List.mem_cons.mp hv with e | e
      · first
        | (cases e; done)
        | (cases e; exact trivial)
        | (cases e; exact h.1)
      · first
        | exact ih h v e
        | exact ih h.2 v e
theorem jnmS_at : ∀ {S : List jV}, jnmS S → ∀ v, v ∈ S → jnm v := by
  intro S
  induction S with
  | nil => intro _ v hv; cases hv
  | cons a S ih =>
    intro h v hv
    rcases a with x | x | ⟨c, x⟩ | ⟨F, o⟩
    all_goals
      rcases List.mem_cons.mp hv with e | e
      · first
        | (subst e; exact trivial)
        | (subst e; exact h.1)
      · first
        | exact ih h v e
        | exact ih h.2 v e
theorem jrel.gd {d d' : jD} {σ σ' : jS} {L : List (Option jV)} {Lm : ax_L} (h : jrel d L Lm) (g : jGd d σ d' σ') (hk : jokL σ L) (hm : jnmL L) : jrel d' L Lm ∧ jokL σ' L := by
  refine ⟨⟨h.1, fun i v hi => ?_⟩, fun v hv => (jcv_gd g (hk v hv) (jnmL_at hm v hv)).2⟩
  have hv : some v ∈ L := List.mem_of_getElem? hi
  rw [(jcv_gd g (hk v hv) (jnmL_at hm v hv)).1]
  exact h.2 i v hi
theorem jS_gd {d d' : jD} {σ σ' : jS} {S : List jV} (g : jGd d σ d' σ') (hk : jokS σ S) (hm : jnmS S) : S.map (jcv d') = S.map (jcv d) ∧ jokS σ' S :=
  ⟨List.map_congr_left (fun v hv => (jcv_gd g (hk v hv) (jnmS_at hm v hv)).1), fun v hv => (jcv_gd g (hk v hv) (jnmS_at hm v hv)).2⟩
/-- a weaker tale of the frame -/
def jwk (L' L : List (Option jV)) : Prop := match L', L with
  | [], [] => True
  | none :: L', _ :: L => jwk L' L
  | some v :: L', some w :: L => v = w ∧ jwk L' L
  | _, _ => False
theorem jwk_at : ∀ {L' L : List (Option jV)}, jwk L' L → L'.length = L.length ∧ ∀ (i : Nat) (v : jV), L'[i]? = some (some v) → L[i]? = some (some v) := by
  intro L'
  induction L' with
  | nil =>
    intro L h
    cases L with
    | nil => exact ⟨rfl, fun i v hi => by simp at hi⟩
    | cons b L => exact False.elim h
  | cons a L' ih =>
    intro L h
    cases L with
    | nil => cases a <;> exact False.elim h
    | cons b L =>
      have h2 : jwk L' L ∧ ∀ v, a = some v → b = some v := by
        cases a with
        | none => exact ⟨h, fun v hv => by cases hv⟩
        | some v =>
          cases b with
          | none => exact False.elim h
          | some w =>
            obtain ⟨e, h⟩ := h
            subst e
            exact ⟨h, fun u hu => hu⟩
      obtain ⟨e1, e2⟩ := ih h2.1
      refine ⟨by simp [e1], fun i v hi => ?_⟩
      cases i with
      | zero =>
        have ha : a = some v := by simpa using hi
        simp [h2.2 v ha]
      | succ i =>
        have hi' : L'[i]? = some (some v) := by simpa using hi
        simpa using e2 i v hi'
section JR
variable {n : Nat} {cd : List ax_En} {rt : Option FieldType} {pc pc' : Nat} {L L' : List (Option jV)} {S S' : List jV} {σ : jS} {Q : Option jV → jS → Prop} {a b c : Nat}
theorem J_weak (hw : jwk L' L) (k : J n cd rt pc L' S σ Q) : J n cd rt pc L S σ Q := by
  intro d H Lm V F R kL kS
  obtain ⟨e1, e2⟩ := jwk_at hw
  refine k d H Lm V F ⟨R.1.trans e1.symm, fun i v hi => R.2 i v (e2 i v hi)⟩ (fun v hv => ?_) kS
  obtain ⟨i, hi⟩ := List.getElem?_of_mem hv
  exact kL v (List.mem_of_getElem? (e2 i v hi))
/-- what holds of any store and frame met -/
theorem J_known (k : jWF σ → jokL σ L → J n cd rt pc L S σ Q) : J n cd rt pc L S σ Q := fun d H Lm V F R kL kS => k F kL d H Lm V F R kL kS
theorem J_mono {Q' : Option jV → jS → Prop} (k : J n cd rt pc L S σ Q') (hq : ∀ r σ', Q' r σ' → Q r σ') : J n cd rt pc L S σ Q := by
  intro d H Lm V F R kL kS
  obtain ⟨d', H', r, σ', h1, h2, h3, h4, h5, h6⟩ := k d H Lm V F R kL kS
  exact ⟨d', H', r, σ', h1, h2, h3, h4, hq _ _ h5, h6⟩
theorem J_up {n' : Nat} (k : J n cd rt pc L S σ Q) (hn : n ≤ n') : J n' cd rt pc L S σ Q := by
  intro d H Lm V F R kL kS
  obtain ⟨d', H', r, σ', h1, h2, h3, h4, h5, h6⟩ := k d H Lm V F R kL kS
  exact ⟨d', H', r, σ', h1, h2, h3, h4, h5, h6.up hn (by omega)⟩
/-- a step that leaves the heap -/
theorem J_pure {e : ax_En} (hf : ax_fd cd pc = some e) (hc : ax_ctl e = 2) (hs : ∀ d H Lm, jVw d σ H → jWF σ → jrel d L Lm → jokL σ L → jokS σ S → (∃ Lm', ax_step e Lm (S.map (jcv d)) H = some (pc', Lm', S'.map (jcv d), H) ∧ jrel d L' Lm') ∧ jokL σ L' ∧ jokS σ S') (k : J n cd rt pc' L' S' σ Q) : J n cd rt pc L S σ Q := by
  intro d H Lm V F R kL kS
  obtain ⟨⟨Lm', h1, h2⟩, h3, h4⟩ := hs d H Lm V F R kL kS
  obtain ⟨d', H', r, σ', g1, g2, g3, g4, g5, g6⟩ := k d H Lm' V F h2 h3 h4
  exact ⟨d', H', r, σ', g1, g2, g3, g4, g5, r_s hf hc h1 g6⟩
theorem J_pureW {e : ax_En} (hf : ax_fd cd pc = some e) (hc : ax_ctl e = 3) (hn : 1 ≤ n) (hcat : ∀ d, ax_cat (S.map (jcv d)) ≤ 20) (hs : ∀ d H Lm, jVw d σ H → jWF σ → jrel d L Lm → jokL σ L → jokS σ S → (∃ Lm', ax_step e Lm (S.map (jcv d)) H = some (pc', Lm', S'.map (jcv d), H) ∧ jrel d L' Lm') ∧ jokL σ L' ∧ jokS σ S') (k : J n cd rt pc' L' S' σ Q) : J n cd rt pc L S σ Q := by
  intro d H Lm V F R kL kS
  obtain ⟨⟨Lm', h1, h2⟩, h3, h4⟩ := hs d H Lm V F R kL kS
  obtain ⟨d', H', r, σ', g1, g2, g3, g4, g5, g6⟩ := k d H Lm' V F h2 h3 h4
  exact ⟨d', H', r, σ', g1, g2, g3, g4, g5, r_w hf hc ⟨hn, by omega, hcat d⟩ h1 g6⟩
/-- a step that changes the store, and the heap with it -/
theorem J_heap {e : ax_En} {σ1 : jS} (hf : ax_fd cd pc = some e) (hc : ax_ctl e = 2) (hs : ∀ d H Lm, jVw d σ H → jWF σ → jrel d L Lm → jokL σ L → jokS σ S → ∃ d1 H1, ax_step e Lm (S.map (jcv d)) H = some (pc', Lm, S'.map (jcv d1), H1) ∧ jVw d1 σ1 H1 ∧ jWF σ1 ∧ jGd d σ d1 σ1 ∧ jrel d1 L Lm ∧ jokL σ1 L ∧ jokS σ1 S') (k : J n cd rt pc' L S' σ1 Q) : J n cd rt pc L S σ Q := by
  intro d H Lm V F R kL kS
  obtain ⟨d1, H1, h1, h2, h3, h4, h5, h6, h7⟩ := hs d H Lm V F R kL kS
  obtain ⟨d', H', r, σ', g1, g2, g3, g4, g5, g6⟩ := k d1 H1 Lm h2 h3 h5 h6 h7
  exact ⟨d', H', r, σ', g1, g2, h4.tr g3, g4, g5, r_s hf hc h1 g6⟩
theorem jokS_tl {v : jV} (h : jokS σ (v :: S)) : jokS σ S := fun w hw => h w (List.mem_cons_of_mem _ hw)
theorem jokS_hd {v : jV} (h : jokS σ (v :: S)) : jok σ v := h v List.mem_cons_self
theorem jokS_cs {v : jV} (h : jokS σ S) (hv : jok σ v) : jokS σ (v :: S) := fun w hw => by
  rcases List.mem_cons.mp hw with e | e
  · subst e; exact hv
  · exact h w e
end JR
