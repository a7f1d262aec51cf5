/-! The search told without nodes: what is asked comes to the same. -/
/-- what has been remembered since is what would be told -/
def mvl (P : zP) (M0 M : zM) : Prop := ∃ A, M = M0 ++ A ∧ ∀ e, e ∈ A → e.1 = P.2.2.2.1 ∧ ∃ n, askD P M0 n (oneD e.2.1) 1 0 = some (if e.2.2 = [] then none else some (oneD e.2.1))
def resD (s : zS) (t : Option (List zI)) (xs : List Int) : Option zD := t.map (fun _ => slS s xs)
def outD {α : Type} (P : zP) (M0 M M' : zM) (f : Nat → Option α) (v : α) : Prop := mvl P M0 M' ∧ ∃ A, M' = M ++ A ∧ hit P M0 f v A
def akD (P : zP) (M0 : zM) (ask : zS → Int → zS × zQ) : Prop := ∀ (s : zS) (x : Int) (xs : List Int) (i : Nat), gok s → repI s → (∀ y, y ∈ xs → 0 ≤ y ∧ y < hN s) → xs[i]? = some x → mvl P M0 (sM s) → (ask s x).2.1 = 0 → sC (ask s x).1 = sC s → outD P M0 (sM s) (sM (ask s x).1) (fun n => askD P M0 n (slS s xs) xs.length i) (resD (ask s x).1 (ask s x).2.2.1 xs)
section ZOr
variable {T : zT} {P : zP} {M0 M M' M2 : zM} {s s' B : zS} {x k : Int} {xs : List Int} {α γ : Type} {i : Nat}
theorem outD.rf {w : γ} (h : mvl P M0 M) : outD P M0 M M (fun _ => some w) w := ⟨h, [], (List.append_nil _).symm, hit_pure⟩
theorem outD.bn {f : Nat → Option α} {h : α → Nat → Option γ} {u : α} {w : γ} (h1 : outD P M0 M M' f u) (h2 : outD P M0 M' M2 (h u) w) (hf : Mn f) (hh : ∀ u, Mn (h u)) : outD P M0 M M2 (fun n => (f n).bind (fun u => h u n)) w := by
  obtain ⟨a1, A, a2, a3⟩ := h1
  obtain ⟨b1, A', b2, b3⟩ := h2
  exact ⟨b1, A ++ A', by rw [b2, a2, List.append_assoc], hit_bind hf hh a3 b3⟩
theorem slS_1 (h : s.1 = s'.1) : slS s xs = slS s' xs := by
  unfold slS hG hN hE
  rw [h]
theorem needs_D {ask : zS → Int → zS × zQ} (hR : ∀ s y, gok s → 0 ≤ y → y < hN s → askR s (ask s y) 0 0 0) (hI : askI ask) (hD : akD P M0 ask) : ∀ (ys : List Int) (is : List Nat) (s : zS) (acc : List zI), gok s → repI s → (∀ y, y ∈ xs → 0 ≤ y ∧ y < hN s) → is.map (fun i => xs[i]?) = ys.map some → mvl P M0 (sM s) → (spNeeds ask ys s acc).2.1 = 0 → sC (spNeeds ask ys s acc).1 = sC s → outD P M0 (sM s) (sM (spNeeds ask ys s acc).1) (fun n => ndD (askD P M0 n) xs.length is (slS s xs)) (resD (spNeeds ask ys s acc).1 (spNeeds ask ys s acc).2.2.1 xs) := by
  intro ys
  induction ys with
  | nil =>
    intro is s acc hg hr hx his hm h0 hC
    cases is with
    | nil => exact outD.rf hm
    | cons i is => cases his
  | cons y ys ih =>
    intro is s acc hg hr hx his hm h0 hC
    cases is with
    | nil => cases his
    | cons i is =>
      rw [List.map_cons, List.map_cons] at his
      obtain ⟨hi, his⟩ := List.cons.inj his
      obtain ⟨y0, y1⟩ := hx y (List.mem_of_getElem? hi)
      have hk := hR s y hg y0 y1
      have hki := hI s y hg hr y0 y1
      have hkd := hD s y xs i hg hr hx hi hm
      have mnh : ∀ u : Option zD, Mn (fun n => u.elim (some none) (fun S' => ndD (askD P M0 n) xs.length is S')) := fun u => by
        cases u with
        | none => exact Mn_pure
        | some S' => exact ndD_m
      have e0 : spNeeds ask (y :: ys) s acc = match (ask s y).2.2.1 with
        | none => ((ask s y).1, (ask s y).2.1, none, (ask s y).2.2.2)
        | some t => spNeeds ask ys (ask s y).1 (acc ++ t) := rfl
      cases hc : (ask s y).2.2.1 with
      | none =>
        rw [hc] at e0
        dsimp only at e0
        rw [e0] at h0 hC ⊢
        have h1 := hkd h0 hC
        rw [hc] at h1
        exact h1.bn (h := fun u n => u.elim (some none) (fun S' => ndD (askD P M0 n) xs.length is S')) (outD.rf h1.1) askD_mn mnh
      | some t =>
        rw [hc] at e0
        dsimp only at e0
        rw [e0] at h0 hC ⊢
        have hg1 := hk.2.2.2 t hc
        have hgk : gok (ask s y).1 := ⟨hg1.1, by have := hg1.2.1; have := hg.2.1; omega, hg1.2.2.2.1, hk.1.2.1⟩
        obtain ⟨u1, u2, u3⟩ := hki t hc
        have hx1 : ∀ z, z ∈ xs → 0 ≤ z ∧ z < hN (ask s y).1 := fun z hz => by
          have := hx z hz
          have := hg1.2.1
          omega
        have hca : (ask s y).2.1 = 0 := Classical.byContradiction (fun w => by
          have := hk.2.2.1 w
          rw [hc] at this
          cases this)
        have hnr := needs_R hR ys (ask s y).1 (acc ++ t) hgk (fun z hz => by
          have : some z ∈ is.map (fun i => xs[i]?) := by rw [his]; exact List.mem_map_of_mem hz
          obtain ⟨j, -, hj⟩ := List.mem_map.mp this
          exact hx1 z (List.mem_of_getElem? hj))
        have c1 := hk.1.2.2.2.2.1
        have c2 := hnr.1.2.2.2.2.1
        have h1 := hkd hca (by omega)
        rw [hc] at h1
        have h2 := ih is (ask s y).1 (acc ++ t) hgk u1 hx1 his h1.1 h0 (by omega)
        exact h1.bn (h := fun u n => u.elim (some none) (fun S' => ndD (askD P M0 n) xs.length is S')) h2 askD_mn mnh
theorem ix_map : ∀ (ys pre : List Int), (List.range' pre.length ys.length).map (fun i => (pre ++ ys)[i]?) = ys.map some := by
  intro ys
  induction ys with
  | nil => intro pre; rfl
  | cons y ys ih =>
    intro pre
    have h := ih (pre ++ [y])
    rw [List.length_append, List.append_assoc] at h
    rw [List.length_cons, List.range'_succ, List.map_cons, List.map_cons]
    refine congr (congrArg _ ?_) h
    rw [List.getElem?_append_right (Nat.le_refl _), Nat.sub_self]
    rfl
theorem try_D {ask : zS → Int → zS × zQ} (hT : tok P.1) (hR : ∀ s y, gok s → 0 ≤ y → y < hN s → askR s (ask s y) 0 0 0) (hI : askI ask) (hD : akD P M0 ask) (h : gok s) (hr : repI s) (k0 : 0 ≤ k) (k1 : k < tG P.1) (x0 : 0 ≤ x) (x1 : x < hN s) (hcan : ∃ ρ, solE (hG s) (hN s) (hE s) ρ ∧ ∃ θ : Int → List Int, (∀ v, Typ (θ v)) ∧ sbt θ (tR P.1 k 0) = ρ x) (hx : ∀ y, y ∈ xs → 0 ≤ y ∧ y < hN s) (hi : xs[i]? = some x) (hm : mvl P M0 (sM s)) (h0 : (spTry P ask k x s).2.1 = 0) (hC : sC (spTry P ask k x s).1 = sC s) : outD P M0 (sM s) (sM (spTry P ask k x s).1) (fun n => tyD P.1 (askD P M0 n) k xs.length i (slS s xs)) (resD (spTry P ask k x s).1 (spTry P ask k x s).2.2.1 xs) := by
  obtain ⟨a1, a2, a3, a4⟩ := lay_I hT h hr k0 k1 x0 x1 hcan
  obtain ⟨-, -, -, -, -, -, l7, -⟩ := lgv_ok (T := P.1) hT k0 k1 h.1 h.2.1
  have hlay := a3.2.1
  have eS := lay_S hT h k0 k1 x0 x1 hx hi
  have hx1 : ∀ y, y ∈ xs ++ (layGv P.1 k (hG s) (hN s)).2.2.2 → 0 ≤ y ∧ y < hN (spLay P.1 k x s) := fun y hy => by
    rcases List.mem_append.mp hy with w | w
    · have := hx y w
      omega
    · have := a4 y w
      omega
  have key := needs_D (xs := xs ++ (layGv P.1 k (hG s) (hN s)).2.2.2) hR hI hD (layGv P.1 k (hG s) (hN s)).2.2.2 (List.range' xs.length (tN P.1 k).toNat) (spLay P.1 k x s) [] a1 a2 hx1 (by rw [← l7]; exact ix_map _ _) hm
  rw [eS, List.length_append, l7] at key
  have fin : ∀ (R : zS × zQ), R = spNeeds ask (layGv P.1 k (hG s) (hN s)).2.2.2 (spLay P.1 k x s) [] → R.2.1 = 0 → sC R.1 = sC s → outD P M0 (sM s) (sM R.1) (fun n => tyD P.1 (askD P M0 n) k xs.length i (slS s xs)) (resD R.1 R.2.2.1 xs) := fun R hRe r0 r1 => by
    rw [← hRe] at key
    have k1 := key r0 r1
    have e : resD R.1 R.2.2.1 xs = (resD R.1 R.2.2.1 (xs ++ (layGv P.1 k (hG s) (hN s)).2.2.2)).map (cutD xs.length) := by
      unfold resD
      cases R.2.2.1 with
      | none => rfl
      | some t =>
        show some (slS R.1 xs) = some (cutD xs.length _)
        rw [cut_S]
    rw [e]
    exact k1.bn (h := fun v _ => some (v.map (cutD xs.length))) (outD.rf k1.1) ndD_m (fun _ => Mn_pure)
  have e0 : spTry P ask k x s = match (spNeeds ask (layGv P.1 k (hG s) (hN s)).2.2.2 (spLay P.1 k x s) []).2.2.1 with
    | none => spNeeds ask (layGv P.1 k (hG s) (hN s)).2.2.2 (spLay P.1 k x s) []
    | some t => if 200 < (expT (sM (spNeeds ask (layGv P.1 k (hG s) (hN s)).2.2.2 (spLay P.1 k x s) []).1) t).length + 1 then ((spNeeds ask (layGv P.1 k (hG s) (hN s)).2.2.2 (spLay P.1 k x s) []).1, 6, none, noQ) else spNeeds ask (layGv P.1 k (hG s) (hN s)).2.2.2 (spLay P.1 k x s) [] := rfl
  cases hc : (spNeeds ask (layGv P.1 k (hG s) (hN s)).2.2.2 (spLay P.1 k x s) []).2.2.1 with
  | none =>
    rw [hc] at e0
    dsimp only at e0
    exact fin _ e0 h0 hC
  | some t =>
    rw [hc] at e0
    dsimp only at e0
    by_cases q : 200 < (expT (sM (spNeeds ask (layGv P.1 k (hG s) (hN s)).2.2.2 (spLay P.1 k x s) []).1) t).length + 1
    · rw [if_pos q] at e0
      rw [e0] at h0
      exact absurd h0 (by show ¬ (6 : Int) = 0; decide)
    · rw [if_neg q] at e0
      exact fin _ e0 h0 hC
theorem best_two {ask : Int → zS → Int → zS × zQ} {path : List (Int × Int)} {lvl cds unt : Int} {o : Int × List zI × List (Int × Int)} : ∀ (ks : List Int) (s : zS) (f b : Int), ¬ (spBest P ask path x lvl cds unt ks s f (some o) (some b)).2.1.1 = 0 := by
  intro ks
  induction ks with
  | nil =>
    intro s f b
    show ¬ (2 : Int) = 0
    decide
  | cons k ks ih =>
    intro s f b
    unfold spBest
    by_cases q : dcd (cutP s path x k) = true
    · rw [if_pos q]; exact ih _ _ _
    · rw [if_neg q]
      by_cases q2 : (spTry P (ask k) k x s).2.1 = 0
      · rw [if_neg (fun w => w q2)]
        cases hc : (spTry P (ask k) k x s).2.2.1 with
        | none => exact ih _ _ _
        | some t => exact ih _ _ _
      · rw [if_pos q2]; exact q2
end ZOr
