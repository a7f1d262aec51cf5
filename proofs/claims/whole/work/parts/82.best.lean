/-! The best ones are tried, as a whole: the class; what of it is found. -/
theorem ksf_self {B : List Int} {r : Int → Bool} {m : Nat} (h : B = (zrg ((m : Nat) : Int)).filter r) : ksf B 0 m = B := by
  have e : (List.range' 0 m).map (fun q : Nat => (q : Int)) = zrg ((m : Nat) : Int) := by
    unfold zrg
    rw [Int.toNat_natCast, List.range_eq_range']
  unfold ksf
  rw [e]
  conv => rhs; rw [h]
  refine List.filter_congr (fun k hk => ?_)
  refine Bool.eq_iff_iff.mpr ?_
  rw [List.contains_iff_mem, h, List.mem_filter]
  exact ⟨fun w => w.2, fun w => ⟨hk, w⟩⟩
section ZTg
variable {n : Nat} {σ : jS} {P : zP} {s0 : zS} {path β : List (Int × Int)} {x me lvl cds unt best f : Int} {ask : Int → zS → Int → zS × zQ} {Bl : List Int}
/-- what is found by the best ones: its first node -/
theorem best_shape : ∀ (ks : List Int) (s : zS) (f : Int) (one : Option (Int × List zI × List (Int × Int))) (another : Option Int) (t : List zI), (spBest P ask path x lvl cds unt ks s f one another).2.1.2.1 = some t → (spBest P ask path x lvl cds unt ks s f one another).2.1.1 = 0 → (∀ k, k ∈ ks → 0 ≤ k ∧ k < tG P.1) → (∀ o, one = some o → 0 ≤ o.1 ∧ o.1 < tG P.1) → ∃ k sub, (0 ≤ k ∧ k < tG P.1) ∧ t = .inl (k, lvl, cds, (spBest P ask path x lvl cds unt ks s f one another).2.2, unt, tN P.1 k, x, none) :: sub := by
  intro ks
  induction ks with
  | nil =>
    intro s f one another t h hz hk ho
    cases one with
    | none => cases h
    | some o =>
      cases another with
      | none =>
        have : some (.inl (o.1, lvl, cds, f, unt, tN P.1 o.1, x, none) :: o.2.1 : List zI) = some t := h
        cases this
        exact ⟨o.1, o.2.1, ho o rfl, rfl⟩
      | some b => cases h
  | cons k ks ih =>
    intro s f one another t h hz hk ho
    have hk2 : ∀ k, k ∈ ks → 0 ≤ k ∧ k < tG P.1 := fun k hk' => hk k (List.mem_cons_of_mem _ hk')
    unfold spBest at h hz ⊢
    by_cases q : dcd (cutP s path x k) = true
    · rw [if_pos q] at h hz ⊢
      exact ih _ _ _ _ t h hz hk2 ho
    · rw [if_neg q] at h hz ⊢
      by_cases q2 : (spTry P (ask k) k x s).2.1 = 0
      · rw [if_neg (fun w => w q2)] at h hz ⊢
        cases e : (spTry P (ask k) k x s).2.2.1 with
        | none =>
          rw [e] at h hz
          exact ih _ _ _ _ t h hz hk2 ho
        | some u =>
          rw [e] at h hz
          cases one with
          | none => exact ih _ _ _ _ t h hz hk2 (fun o he => by cases he; exact hk k List.mem_cons_self)
          | some o => exact ih _ _ _ _ t h hz hk2 (fun o' he => by cases he; exact ho o rfl)
      · rw [if_pos q2] at hz
        exact absurd hz q2
theorem c_tryBest {Q : Int → jS → Prop} {m : Nat} (hn : 12 ≤ n) (hask : ∀ k, 0 ≤ k → k < tG P.1 → askC P (n - 1 - 1) (ask k) (path ++ [(k, x)])) (hR : ∀ k s y, gok s → 0 ≤ y → y < hN s → askR s (ask k s y) 0 0 0) (hT : tok P.1) (hd : path.length < 20) (hB : cB σ P s0 path) (hH : cH σ s0 β) (h0 : nOk s0) (hst : rs σ 7017 0 = 0) (x0 : 0 ≤ x) (x1 : x < hN s0) (hxl : (ex (hG s0) (hN s0) β x).length ≤ 100) (m0 : 0 ≤ me) (m1 : me < rs σ 6000 1) (hpath : ∀ p, p ∈ path → 0 ≤ p.2 ∧ p.2 < hN s0) (hsv : rs σ 9002 0 ≤ 2 * (100 * ((path.length : Nat) : Int) + zu (hG s0) (hN s0))) (hbN : hN s0 + 120 ≤ 12 + 120 * sA s0) (hbz : (zu (hG s0) (hN s0) : Int) + 52 ≤ 12 + 52 * sA s0)
    (hm : ((m : Nat) : Int) = tG P.1) (hbs : bse best (fun k => k ∈ Bl)) (hBl : ksf Bl 0 m = Bl) (hcan : ∀ k, k ∈ Bl → ∃ ρ, solE (hG s0) (hN s0) (hE s0) ρ ∧ ∃ θ : Int → List Int, (∀ v, Typ (θ v)) ∧ sbt θ (tR P.1 k 0) = ρ x) (hp : pot s0 + (Bl.length : Nat) ≤ 200) (hf : f + (m : Nat) ≤ 1000) (f0 : 0 ≤ f) (hf5 : ra σ 6001 1 (me * 8 + 5) = f)
    (hq : ∀ v σ', bPost P σ σ' s0 path β x me (spBest P ask path x lvl cds unt Bl s0 f none none) → (v = match (spBest P ask path x lvl cds unt Bl s0 f none none).2.1.2.1 with
      | none => 0
      | some t => ((expT (sM (spBest P ask path x lvl cds unt Bl s0 f none none).1) t).length : Int)) → Q v σ') : TrI n i_Search_tryBest [jo 7 0, ji best, ji x, ji (path.length : Nat), ji me] σ Q := by
  obtain ⟨hcT, hrep, hgk⟩ := hH
  have t70 := cC_at hB.2.1 7000 0 0 (by decide)
  have t76 := cC_at hB.2.1 7006 0 1 (by decide)
  have hsav := hB.2.2.2.2.2.2.2.2.1
  refine wp_Search_tryBest ⟨by omega, by omega, by omega, ?_⟩
  rw [t70, t76, hcT.1.2.2.2.2.2.2.2.2.2.2.2.2.1.1, hcT.1.2.2.2.1]
  exact c_best48 (lvl := lvl) (cds := cds) (unt := unt) (ask := ask) (Bl := Bl) hn hask hR hT hd x0 x1 hxl hgk hrep m0 m1 hsav.1 hpath hsv hbN hbz hbs hcan hq m 0 s0 f none none (rs σ 6000 1) 0 (-1) (-1) σ (by rw [Nat.zero_add]; exact hm) (by rw [hBl]) ⟨aq.rf σ, hB, hst, hcT, hrep, hgk, ⟨hgk.1, Int.le_refl _, agr.rf _ _, rfl, rfl, rfl⟩, h0, Int.le_refl _, fun _ _ => rfl, ⟨rfl, Int.le_refl _, fun _ _ _ _ _ => rfl⟩, hf5, fun _ _ _ => rfl, ⟨rfl, rfl, rfl, rfl⟩, rfl, f0⟩ (by rw [hBl]; exact hp) hf
end ZTg
