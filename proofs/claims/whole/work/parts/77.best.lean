/-! The best ones are tried: the class. -/
def ksf (B : List Int) (i j : Nat) : List Int := ((List.range' i j).map (fun q : Nat => (q : Int))).filter (fun c => B.contains c)
theorem ksf_s (B : List Int) (i j : Nat) : ksf B i (j + 1) = if (i : Int) ∈ B then (i : Int) :: ksf B (i + 1) j else ksf B (i + 1) j := by
  unfold ksf
  rw [List.range'_succ, List.map_cons]
  by_cases q : (i : Int) ∈ B
  · rw [if_pos q, List.filter_cons_of_pos (List.contains_iff_mem.mpr q)]
  · rw [if_neg q, List.filter_cons_of_neg (fun w => q (List.contains_iff_mem.mp w))]
theorem ksf_mem {B : List Int} {i j : Nat} {k : Int} (h : k ∈ ksf B i j) : k ∈ B ∧ (i : Int) ≤ k ∧ k < ((i + j : Nat) : Int) := by
  unfold ksf at h
  obtain ⟨h1, h2⟩ := List.mem_filter.mp h
  obtain ⟨q, hq, e⟩ := List.mem_map.mp h1
  have := List.mem_range'_1.mp hq
  exact ⟨List.contains_iff_mem.mp h2, by omega, by omega⟩
theorem str_ext {g g' : zH} {N : Int} {ρ0 : Int → List Int} (h0 : 0 ≤ N) (h : str g N ρ0) (ha : agr g g' N) : ∀ (j : Nat), zok g' (N + (j : Nat)) → ∃ ρ, str g' (N + (j : Nat)) ρ ∧ ∀ m, m < N → ρ m = ρ0 m := by
  intro j
  induction j with
  | zero =>
    intro _
    rw [show N + ((0 : Nat) : Int) = N by omega]
    exact ⟨ρ0, (str_cong ha).mp h, fun _ _ => rfl⟩
  | succ j ih =>
    intro hz
    have hz1 : zok g' (N + (j : Nat)) := fun n n0 n1 => hz n n0 (by omega)
    obtain ⟨ρ, r1, r2⟩ := ih hz1
    have hzn := hz (N + (j : Nat)) (by omega) (by omega)
    by_cases q : gh g' (N + (j : Nat)) = -1
    · refine ⟨upR ρ (N + (j : Nat)) [0], fun n n0 n1 => ?_, fun m hm => by rw [upR_eq, if_neg (by omega)]; exact r2 m hm⟩
      by_cases w : n = N + (j : Nat)
      · rw [upR_eq, if_pos w]
        exact ⟨Typ_0, fun hu => absurd (by rw [w]; exact q) hu⟩
      · rw [upR_eq, if_neg w]
        refine ⟨(r1 n n0 (by omega)).1, fun hu => ?_⟩
        rw [(r1 n n0 (by omega)).2 hu]
        exact congrArg _ (flat_congr (fun k hk => by rw [upR_eq, if_neg (by have := (hz1 n n0 (by omega)).2 k hk; omega)]))
    · have hT : Typ (gh g' (N + (j : Nat)) :: ((List.range (pN (gh g' (N + (j : Nat))))).map (fun k => ρ (gp g' (N + (j : Nat)) k))).flatten) := Typ_node (fun k hk => (r1 _ (hzn.2 k hk).1 (hzn.2 k hk).2).1)
      refine ⟨upR ρ (N + (j : Nat)) (gh g' (N + (j : Nat)) :: ((List.range (pN (gh g' (N + (j : Nat))))).map (fun k => ρ (gp g' (N + (j : Nat)) k))).flatten), fun n n0 n1 => ?_, fun m hm => by rw [upR_eq, if_neg (by omega)]; exact r2 m hm⟩
      by_cases w : n = N + (j : Nat)
      · rw [upR_eq, if_pos w]
        refine ⟨hT, fun _ => ?_⟩
        rw [w]
        exact congrArg _ (flat_congr (fun k hk => by rw [upR_eq, if_neg (by have := hzn.2 k hk; omega)]))
      · rw [upR_eq, if_neg w]
        refine ⟨(r1 n n0 (by omega)).1, fun hu => ?_⟩
        rw [(r1 n n0 (by omega)).2 hu]
        exact congrArg _ (flat_congr (fun k hk => by rw [upR_eq, if_neg (by have := (hz1 n n0 (by omega)).2 k hk; omega)]))
section ZTb
variable {n : Nat} {σ : jS} {P : zP} {s0 : zS} {path β : List (Int × Int)} {x me lvl cds unt : Int} {ask : Int → zS → Int → zS × zQ}
/-- a candidate stays one where there are more nodes -/
theorem can_ext {s0 s : zS} {k : Int} (hg : gok s0) (hz : zok (hG s) (hN s)) (ha : agr (hG s0) (hG s) (hN s0)) (hN0 : hN s0 ≤ hN s) (hE0 : hE s = hE s0) (x1 : x < hN s0) (h : ∃ ρ, solE (hG s0) (hN s0) (hE s0) ρ ∧ ∃ θ : Int → List Int, (∀ v, Typ (θ v)) ∧ sbt θ (tR P.1 k 0) = ρ x) : ∃ ρ, solE (hG s) (hN s) (hE s) ρ ∧ ∃ θ : Int → List Int, (∀ v, Typ (θ v)) ∧ sbt θ (tR P.1 k 0) = ρ x := by
  obtain ⟨ρ, ⟨q1, q2⟩, θ, q3, q4⟩ := h
  obtain ⟨j, hj⟩ := Int.eq_ofNat_of_zero_le (show 0 ≤ hN s - hN s0 by omega)
  have e : hN s = hN s0 + (j : Nat) := by omega
  obtain ⟨ρ2, r1, r2⟩ := str_ext hg.2.1 q1 ha j (by rw [← e]; exact hz)
  refine ⟨ρ2, ⟨by rw [e]; exact r1, fun p hp => ?_⟩, θ, q3, by rw [q4, r2 x x1]⟩
  rw [hE0] at hp
  have := hg.2.2.1 p hp
  rw [r2 _ this.1.2, r2 _ this.2.2]
  exact q2 p hp
/-- what is at hand of the one that didn't fail -/
def oneI (P : zP) (σ σ1 : jS) (s0 s : zS) (β : List (Int × Int)) (x me : Int) (one : Option (Int × List zI × List (Int × Int))) (z8 z9 z10 : Int) : Prop := match one with
  | none => z10 = -1 ∧ z9 = 0 ∧ rs σ1 9002 0 = rs σ 9002 0 ∧ z8 = rs σ 6000 1
  | some o => z10 = o.1 ∧ (0 ≤ o.1 ∧ o.1 < tG P.1) ∧ z9 = ((expT (sM s) o.2.1).length : Int) + 1 ∧ z9 ≤ 200 ∧ (∃ new, rs σ1 9002 0 = rs σ 9002 0 + 2 * (new.length : Nat) ∧ savd (ra σ1 9007 0) (rs σ 9002 0) new.reverse ∧ rep (hG s) (hN s) (new ++ β) o.2.2 ∧ (∀ K : Int → Prop, (∀ m, hN s0 ≤ m → K m) → eclo (hG s0) (hN s0) β K → K x → (∀ p, p ∈ new → K p.1 ∧ K p.2) ∧ eclo (hG s) (hN s) (new ++ β) K)) ∧ planS σ1 (rs σ 6000 1) (tslots me (tN P.1 o.1).toNat) o.2.1 ∧ z8 = rs σ 6000 1 + (o.2.1.length : Nat) ∧ rdA (o.2.1.map arI) (tN P.1 o.1).toNat = some [] ∧ ∀ m : Nat, .inr m ∈ o.2.1 → m < (sM s).length
def anoI (one : Option (Int × List zI × List (Int × Int))) (another : Option Int) (z11 : Int) : Prop := match another with
  | none => z11 = -1
  | some b => z11 = b ∧ 0 ≤ b ∧ ∃ o, one = some o
/-- what trying the best ones leaves -/
def bPost (P : zP) (σ σ' : jS) (s : zS) (path β : List (Int × Int)) (x me : Int) (R : zS × zQ × Int) : Prop :=
  aq σ σ' ∧ cB σ' P R.1 path ∧ rs σ' 7017 0 = R.2.1.1 ∧ (R.2.1.1 = 0 → rs σ' 9002 0 = rs σ 9002 0 ∧ ∀ i, 0 ≤ i → i < rs σ 9002 0 → ra σ' 9007 0 i = ra σ 9007 0 i) ∧ (∀ z : Int, z < 4 * ((path.length : Nat) : Int) → ra σ' 7012 0 z = ra σ 7012 0 z) ∧ (rs σ 6000 1 ≤ rs σ' 6000 1 ∧ ∀ i, 0 ≤ i → i < rs σ 6000 1 * 8 → ¬ i = me * 8 + 0 → ¬ i = me * 8 + 5 → ra σ' 6001 1 i = ra σ 6001 1 i) ∧ (R.2.1.1 = 0 → ra σ' 6001 1 (me * 8 + 5) = R.2.2) ∧
  (∃ new g' N', cT σ' g' N' (new ++ β) ∧ agr (hG s) g' (hN s) ∧ hN s ≤ N' ∧ (R.2.1.1 = 0 → R.2.1.2.1 = none → new = [] ∧ g' = hG s ∧ N' = hN s ∧ rs σ' 6000 1 = rs σ 6000 1) ∧ ∀ t, R.2.1.2.1 = some t → g' = hG R.1 ∧ N' = hN R.1 ∧ rep g' N' (new ++ β) (hE R.1) ∧ (∀ K : Int → Prop, (∀ m, hN s ≤ m → K m) → eclo (hG s) (hN s) β K → K x → (∀ p, p ∈ new → K p.1 ∧ K p.2) ∧ eclo (hG R.1) (hN R.1) (new ++ β) K) ∧ ∃ z sub, t = .inl z :: sub ∧ ra σ' 6001 1 (me * 8 + 0) = z.1 ∧ planS σ' (rs σ 6000 1) (tslots me (arI (.inl z))) sub ∧ rs σ' 6000 1 = rs σ 6000 1 + (sub.length : Nat) ∧ rdA (sub.map arI) (arI (.inl z)) = some [] ∧ (∀ m : Nat, .inr m ∈ sub → m < (sM R.1).length) ∧ (expT (sM R.1) sub).length + 1 ≤ 200) ∧
  (R.2.1.1 = 2 → rs σ' 7004 0 = R.2.1.2.2.1 ∧ rs σ' 7005 0 = R.2.1.2.2.2.1 ∧ fT σ' 242 R.2.1.2.2.2.2)
end ZTb
