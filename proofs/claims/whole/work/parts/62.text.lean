/-! THE TEXT, as both hold it; back to fewer nodes; a row laid and a node. -/
abbrev zT : Type := Int × Int × (Int → Int) × (Int → Int) × (Int → Int) × (Int → Int) × (Int → Nat → List Int)
def tS (T : zT) : Int := T.1
def tG (T : zT) : Int := T.2.1
def tA (T : zT) (k : Int) : Int := T.2.2.1 k
def tL (T : zT) (k : Int) : Int := T.2.2.2.1 k
def tH (T : zT) (g : Int) : Int := T.2.2.2.2.1 g
def tN (T : zT) (g : Int) : Int := T.2.2.2.2.2.1 g
def tR (T : zT) (g : Int) (i : Nat) : List Int := T.2.2.2.2.2.2 g i
/-- a row of things that is a type -/
def rwk (r : List Int) : Prop := Typ r ∧ (∀ t, t ∈ r → thg t) ∧ r.length ≤ 12
def tok (T : zT) : Prop := 0 ≤ tS T ∧ tS T ≤ 8 ∧ 0 ≤ tG T ∧ tG T ≤ 24 ∧ (∀ k, 0 ≤ k → k < tS T → (tA T k = -1 ∧ tL T k = 0 ∨ (0 ≤ tA T k ∧ tA T k < k ∧ tL T k = tL T (tA T k) + 1)) ∧ 0 ≤ tL T k ∧ tL T k ≤ 5) ∧ ∀ g, 0 ≤ g → g < tG T → 0 ≤ tH T g ∧ tH T g < tS T ∧ 0 ≤ tN T g ∧ tN T g ≤ 4 ∧ ∀ i : Nat, i ≤ tN T g → rwk (tR T g i)
/-- one type becomes another by putting types for its letters -/
def becm (s r : List Int) : Prop := ∃ θ : Int → List Int, (∀ v, Typ (θ v)) ∧ sbt θ s = r
def spc (T : zT) (i j : Int) : Prop := becm (tR T j 0) (tR T i 0) ∧ ¬ becm (tR T i 0) (tR T j 0)
def mTx (σ : jS) (T : zT) : Prop := tok T ∧ rs σ 1013 0 = tS T ∧ rs σ 1014 0 = tG T ∧ (∀ k, 0 ≤ k → k < tS T → ra σ 1008 0 k = tA T k) ∧ (∀ g, 0 ≤ g → g < tG T → ra σ 1009 0 g = tH T g ∧ ra σ 1010 0 g = tN T g ∧ ∀ i : Nat, i ≤ tN T g → ra σ 1012 0 (5 * g + i) = ((tR T g i).length : Nat) ∧ ∀ p : Nat, p < (tR T g i).length → ra σ 1011 0 (12 * (5 * g + i) + p) = (tR T g i).getD p 0) ∧ (∀ i j, 0 ≤ i → i < tG T → 0 ≤ j → j < tG T → (ra σ 1026 0 (24 * i + j) = 1 ∧ spc T i j) ∨ (ra σ 1026 0 (24 * i + j) = 0 ∧ ¬ spc T i j))
/-- a set of numbers as bits -/
def bse (b : Int) (C : Int → Prop) : Prop := i32 b ∧ ∀ k, 0 ≤ k → k < 32 → (tb b k = true ↔ C k)
def cTx (σ : jS) (T : zT) : Prop := tok T ∧ ∃ tx, (tx = 0 ∨ tx = 1) ∧ rs σ 7019 0 = tx ∧ rs σ 12005 0 = tx ∧ rs σ 10000 tx = tS T ∧ rs σ 10001 tx = tG T ∧ (∀ j, 0 ≤ j → j < 120 → ra σ 10008 tx j = 2 + 120 * tx + j) ∧
  (∀ k, 0 ≤ k → k < tS T → ra σ 10002 tx k = tA T k ∧ ra σ 10003 tx k = tL T k ∧ bse (ra σ 10004 tx k) (fun g => 0 ≤ g ∧ g < tG T ∧ tH T g = k)) ∧
  (∀ g, 0 ≤ g → g < tG T → ra σ 10005 tx g = tH T g ∧ ra σ 10006 tx g = tN T g ∧ (∀ i : Nat, i ≤ tN T g → fT σ (2 + 120 * tx + (5 * g + i)) (tR T g i)) ∧ bse (ra σ 10009 tx g) (fun c => 0 ≤ c ∧ c < tG T ∧ becm (tR T g 0) (tR T c 0)))
/-- pairs that are nodes -/
def eok (N : Int) (E : List (Int × Int)) : Prop := ∀ p, p ∈ E → (0 ≤ p.1 ∧ p.1 < N) ∧ 0 ≤ p.2 ∧ p.2 < N
section ZJ
variable {n : Nat} {σ : jS} {g g' : zH} {N N' : Int} {β E : List (Int × Int)} {x y u t : Int} {ρ : Int → List Int} {vs : Int → Int} {r : List Int}
theorem zu_cong (ha : agr g g' N) : zu g' N = zu g N := cnt_congr (fun a h => by
  have := mem_zrg_iff.mp h
  rw [(ha a this.1 this.2).1])
theorem agr.sy (ha : agr g g' N) : agr g' g N := fun n h0 h1 => ⟨(ha n h0 h1).1.symm, fun k => ((ha n h0 h1).2 k).symm⟩
theorem bok_low (ha : agr g g' N) : ∀ {β : List (Int × Int)}, bok g N β → bok g' N β := fun h => bok_ext ha (Int.le_refl _) h
theorem mT_low {σ0 : jS} (h0 : mT σ0 g N β) (h : mT σ g' N' β) (ha : agr g g' N) (hN : N ≤ N') (hk : kpp σ0 σ N) {p : Int} (hp : p = rs σ0 1034 0) : mT (ws (ws σ 1033 0 N) 1034 0 p) g N β := by
  obtain ⟨a1, a2, a3, a4, a5, a6, a7, a8, a9, a10, a11, a12, a13⟩ := h0
  obtain ⟨b1, b2, b3, b4, b5, b6, b7, b8, b9, b10, b11, b12, b13⟩ := h
  have f : sq [(1033, 0), (1034, 0)] σ (ws (ws σ 1033 0 N) 1034 0 p) := ((sq.rf _ σ).pws 1033 0 _ (by decide)).pws 1034 0 _ (by decide)
  unfold mT
  rw [f.nraf 1028 0 (by decide), f.nraf 1029 0 (by decide), f.nraf 1030 0 (by decide), f.nraf 1031 0 (by decide), f.nraf 1032 0 (by decide), f.nrs 1035 0 (by decide)]
  have e33 : rs (ws (ws σ 1033 0 N) 1034 0 p) 1033 0 = N := by rw [rs_ws, if_neg (by decide), rs_ws, if_pos ⟨rfl, rfl⟩]
  have e34 : rs (ws (ws σ 1033 0 N) 1034 0 p) 1034 0 = p := by rw [rs_ws, if_pos ⟨rfl, rfl⟩]
  rw [e33, e34]
  refine ⟨b1.sq f, a2, a3, rfl, a5, a6, a7, fun n n0 n1 => ?_, ⟨by omega, by omega⟩, fun n n0 n1 k hk2 => ?_, fun n n0 n1 hn => ?_, b12, b13⟩
  · rw [b8 n n0 (by omega), (ha n n0 n1).1]
  · have h1 := a10 n n0 n1 k hk2
    have h2 := (b10 n n0 (by omega) k (by rw [(ha n n0 n1).1]; exact hk2)).2.2
    rw [(ha n n0 n1).2 k, hk n n0 n1] at h2
    rw [hk n n0 n1]
    exact ⟨h1.1, by omega, h2⟩
  · exact b11 n n0 (by omega) (by rw [(ha n n0 n1).1]; exact hn)
theorem cT_low (h : cT σ g' N' β) (ha : agr g g' N) (hN : N ≤ N') (h0 : 0 ≤ N) (hz : zok g N) (hb : bok g N β) (hzu : zu g N ≤ 20000) {m : Int} (hm : m = N) : cT (ws σ 9000 0 m) g N β := by
  obtain ⟨⟨b1, b2, b3, b4, b5, b6, b7, ⟨b8, b8b, b8c, b8d⟩, b9, b10, b11, b12, b13, b14⟩, b15⟩ := h
  have f : sq [(9000, 0)] σ (ws σ 9000 0 m) := (sq.rf _ σ).pws 9000 0 _ (by decide)
  refine ⟨?_, b15.sq f (by decide)⟩
  unfold cT0
  rw [f.nraf 9003 0 (by decide), f.nraf 9005 0 (by decide), f.nraf 9006 0 (by decide), f.nrs 9001 0 (by decide), f.nrl 9003 0, f.nrl 9004 0, f.nrl 9005 0, f.nrl 9006 0]
  have e0 : rs (ws σ 9000 0 m) 9000 0 = N := by rw [rs_ws, if_pos ⟨rfl, rfl⟩, hm]
  rw [e0]
  refine ⟨b1.sq f, hz, hb, rfl, h0, by omega, hzu, ⟨by omega, b8b, b8c, b8d⟩, b9, fun n n0 n1 => ?_, fun n n0 n1 k hk => ?_, fun n n0 n1 hn => ?_, b13, b14⟩
  · rw [b10 n n0 (by omega)]
    unfold sg
    rw [(ha n n0 n1).1]
  · rw [b11 n n0 (by omega) k (by rw [(ha n n0 n1).1]; exact hk), (ha n n0 n1).2 k]
  · exact b12 n n0 (by omega) (by rw [(ha n n0 n1).1]; exact hn)
theorem lok_all (hz : zok g N) (hN : 0 ≤ N) (hv : vok g N vs) (hT : Typ r) (hth : ∀ t, t ∈ r → thg t) : lok g N vs r (layR r g N vs).1 (layR r g N vs).2.1 (layR r g N vs).2.2.1 (layR r g N vs).2.2.2 := by
  have key : ∀ j, j ≤ r.length → lok g N vs (r.drop (r.length - j)) (layR (r.drop (r.length - j)) g N vs).1 (layR (r.drop (r.length - j)) g N vs).2.1 (layR (r.drop (r.length - j)) g N vs).2.2.1 (layR (r.drop (r.length - j)) g N vs).2.2.2 := by
    intro j
    induction j with
    | zero =>
      intro _
      rw [Nat.sub_zero, List.drop_length]
      exact lok_nil hz hv hN
    | succ j ih =>
      intro hj
      have ih := ih (by omega)
      have hjr : r.length - (j + 1) < r.length := by omega
      have e : r.length - j = r.length - (j + 1) + 1 := by omega
      rw [e] at ih
      have hd : r.drop (r.length - (j + 1)) = r[r.length - (j + 1)] :: r.drop (r.length - (j + 1) + 1) := List.drop_eq_getElem_cons hjr
      have := lok_cons hN ih (hth _ (List.getElem_mem hjr)) (lay_len hT hjr ih.2.2.2.2.2.2.2.2.1)
      rw [hd]
      exact this
  have := key r.length (Nat.le_refl _)
  rw [Nat.sub_self] at this
  exact this
/-- the node of a row that is laid -/
theorem lay_root (hl : lok g N vs r (layR r g N vs).1 (layR r g N vs).2.1 (layR r g N vs).2.2.1 (layR r g N vs).2.2.2) (hT : Typ r) : 0 ≤ (layR r g N vs).2.2.2.headD 0 ∧ (layR r g N vs).2.2.2.headD 0 < (layR r g N vs).2.1 ∧ (∀ ρ, str (layR r g N vs).1 (layR r g N vs).2.1 ρ → ρ ((layR r g N vs).2.2.2.headD 0) = sbt (fun t => ρ ((layR r g N vs).2.2.1 (-1 - t))) r) ∧ (layR r g N vs).2.2.2.headD 0 ∈ (layR r g N vs).2.2.2 := by
  obtain ⟨-, -, -, -, -, -, -, -, h9, h10, h11, -, -, -⟩ := hl
  have hlen : (layR r g N vs).2.2.2.length = 1 := rdk_uni h9 hT
  revert h10 h11 hlen
  generalize layR r g N vs = A
  obtain ⟨g1, N1, vs1, pile⟩ := A
  dsimp only
  intro h10 h11 hlen
  cases pile with
  | nil => cases hlen
  | cons a pile =>
    cases pile with
    | nil =>
      have := h10 a List.mem_cons_self
      refine ⟨this.1, this.2, fun ρ hρ => ?_, List.mem_cons_self⟩
      have := h11 ρ hρ
      simp at this
      exact this
    | cons b pile => simp at hlen
theorem sbt_ext {θ θ' : Int → List Int} : ∀ {l : List Int}, (∀ t, t ∈ l → t < 0 → θ t = θ' t) → sbt θ l = sbt θ' l := by
  intro l
  induction l with
  | nil => intro _; rfl
  | cons a l ih =>
    intro h
    have ih := ih (fun t ht => h t (List.mem_cons_of_mem _ ht))
    by_cases q : a < 0
    · rw [sbt_cons_v q, sbt_cons_v q, ih, h a List.mem_cons_self q]
    · rw [sbt_cons_c q, sbt_cons_c q, ih]
theorem Typ_0 : Typ [0] := rfl
/-- a row that is laid anew and a node can become one: what that says without nodes -/
theorem lay_uni (hl : lok g N (fun _ => -1) r (layR r g N (fun _ => -1)).1 (layR r g N (fun _ => -1)).2.1 (layR r g N (fun _ => -1)).2.2.1 (layR r g N (fun _ => -1)).2.2.2) (hT : Typ r) (hz : zok g N) (hE : eok N E) (x0 : 0 ≤ x) (x1 : x < N) : (∃ ρ, solE (layR r g N (fun _ => -1)).1 (layR r g N (fun _ => -1)).2.1 E ρ ∧ ρ ((layR r g N (fun _ => -1)).2.2.2.headD 0) = ρ x) ↔ ∃ ρ, solE g N E ρ ∧ ∃ θ : Int → List Int, (∀ v, Typ (θ v)) ∧ sbt θ r = ρ x := by
  obtain ⟨r0, r1, r2, r3⟩ := lay_root hl hT
  obtain ⟨h1, h2, h3, h4, h5, h6, h6b, h7, h8, h9, h10, h11, h12, h13⟩ := hl
  generalize layR r g N (fun _ => -1) = A at *
  obtain ⟨g1, N1, vs1, pile⟩ := A
  dsimp only at *
  constructor
  · rintro ⟨ρ, ⟨q1, q2⟩, q3⟩
    refine ⟨ρ, ⟨str_low h3 h1 hz q1, q2⟩, fun t => if t ∈ r ∧ t < 0 then ρ (vs1 (-1 - t)) else [0], fun v => ?_, ?_⟩
    · show Typ (if v ∈ r ∧ v < 0 then ρ (vs1 (-1 - v)) else [0])
      by_cases w : v ∈ r ∧ v < 0
      · rw [if_pos w]
        have := (h5 (-1 - v)).resolve_left (h7 v w.1 w.2)
        exact (q1 _ this.1 this.2.1).1
      · rw [if_neg w]; exact Typ_0
    · rw [← q3, r2 ρ q1]
      exact sbt_ext (fun t ht hn => if_pos ⟨ht, hn⟩)
  · rintro ⟨ρ, ⟨q1, q2⟩, θ, q3, q4⟩
    obtain ⟨ρ1, s1, s2, s3⟩ := h12 ρ (fun v => θ (-1 - v)) q1 (fun v => q3 _) (fun v hv => absurd rfl hv)
    refine ⟨ρ1, ⟨s1, fun p hp => ?_⟩, ?_⟩
    · have := hE p hp
      rw [s2 _ this.1.2, s2 _ this.2.2]
      exact q2 p hp
    · rw [r2 ρ1 s1, s2 x x1, ← q4]
      refine sbt_ext (fun t ht hn => ?_)
      rw [s3 (-1 - t) (h7 t ht hn), show -1 - (-1 - t) = t by omega]
/-- what is laid anew is no longer than its row -/
theorem lay_exlen (hl : lok g N (fun _ => -1) r (layR r g N (fun _ => -1)).1 (layR r g N (fun _ => -1)).2.1 (layR r g N (fun _ => -1)).2.2.1 (layR r g N (fun _ => -1)).2.2.2) (hT : Typ r) (hb : bok g N β) (hb' : bok (layR r g N (fun _ => -1)).1 (layR r g N (fun _ => -1)).2.1 β) (ha : acy (layR r g N (fun _ => -1)).1 (layR r g N (fun _ => -1)).2.1 β) : (ex (layR r g N (fun _ => -1)).1 (layR r g N (fun _ => -1)).2.1 β ((layR r g N (fun _ => -1)).2.2.2.headD 0)).length = r.length := by
  obtain ⟨r0, r1, r2, r3⟩ := lay_root hl hT
  obtain ⟨h1, h2, h3, h4, h5, h6, h6b, h7, h8, h9, h10, h11, h12, h13⟩ := hl
  generalize layR r g N (fun _ => -1) = A at *
  obtain ⟨g1, N1, vs1, pile⟩ := A
  dsimp only at *
  have hs := ex_sol h4 hb' ha
  rw [r2 _ (sol_iff.mp hs).1]
  have : ∀ l : List Int, (∀ t, t ∈ l → t ∈ r) → (sbt (fun t => ex g1 N1 β (vs1 (-1 - t))) l).length = l.length := by
    intro l
    induction l with
    | nil => intro _; rfl
    | cons a l ih =>
      intro hlr
      have ih := ih (fun t ht => hlr t (List.mem_cons_of_mem _ ht))
      by_cases q : a < 0
      · have w1 := h7 a (hlr a List.mem_cons_self) q
        have w2 := h6b _ w1 rfl
        obtain ⟨c1, c2, c3⟩ := (h5 (-1 - a)).resolve_left w1
        have c4 : bl β (vs1 (-1 - a)) = -1 := by
          by_cases w : bl β (vs1 (-1 - a)) = -1
          · exact w
          · have := bok_at hb w
            omega
        rw [sbt_cons_v q, List.length_append, ih, ex_un h4 hb' ha c1 c2 c3 c4, List.length_cons]
        simp
        omega
      · rw [sbt_cons_c q, List.length_cons, List.length_cons, ih]
  exact this r (fun _ h => h)
end ZJ
