/-! Trees with what was remembered in its place are whole; rows kept now. -/
theorem exp_whole {M : zM} : ∀ {t : List zI} {k : Nat}, rdA (t.map arI) k = some [] → (∀ m : Nat, .inr m ∈ t → rdA ((memT M m).map arZ) 1 = some []) → rdA ((expT M t).map arZ) k = some [] := by
  intro t
  induction t with
  | nil => intro k h _; exact h
  | cons y t ih =>
    intro k h hm
    cases k with
    | zero => cases h
    | succ k =>
      have h2 : rdA (t.map arI) (k + arI y) = some [] := h
      have hm2 : ∀ m : Nat, .inr m ∈ t → rdA ((memT M m).map arZ) 1 = some [] := fun m hmm => hm m (List.mem_cons_of_mem _ hmm)
      cases y with
      | inl z =>
        rw [expT_inl]
        exact ih h2 hm2
      | inr m =>
        rw [expT_inr, List.map_append, Nat.add_comm k 1]
        rw [rdA_app (hm m List.mem_cons_self) k]
        exact ih h2 hm2
theorem planS_kpt {σ : jS} {f : Int → List Int} : ∀ {t : List zI} {p : Int} {st : List (Int × Int)}, planS σ p st t → planS σ p st (t.map (kpt f)) := by
  intro t
  induction t with
  | nil => intro _ _ _; trivial
  | cons y t ih =>
    intro p st h
    obtain ⟨h1, h2⟩ := h
    refine ⟨?_, ?_⟩
    · rcases y with ⟨a, b, c, d, e, u, w, r⟩ | m <;> exact h1
    · rw [kpt_ar]
      exact ih h2
theorem arI_kpt {f : Int → List Int} (t : List zI) : (t.map (kpt f)).map arI = t.map arI := by
  rw [List.map_map]
  exact List.map_congr_left (fun i _ => kpt_ar f i)
/-- what is kept is what is there now -/
theorem kep_kpt {R : zS} {t : List zI} (h : ∀ z : zN, .inl z ∈ t → ∀ r, nRw z = some r → rowE (hG R) (hN R) (hE R) (nGl z) = r) : t.map (kepI R) = t.map (kpt (rowE (hG R) (hN R) (hE R))) := by
  refine List.map_congr_left (fun i hi => ?_)
  rcases i with ⟨a, b, c, d, e, u, w, r⟩ | m
  · cases r with
    | none => rfl
    | some r =>
      have := h _ hi r rfl
      have e2 : rowE (hG R) (hN R) (hE R) w = r := this
      show (.inl (a, b, c, d, e, u, w, some r) : zI) = .inl (a, b, c, d, e, u, w, some (rowE (hG R) (hN R) (hE R) w))
      rw [e2]
  · rfl
/-- a goal is not remembered while it is asked, if nothing is cut -/
theorem ask_once {P : zP} {s : zS} {x : Int} {m : Nat} {path : List (Int × Int)} (hT : tok P.1) (hsc : 0 ≤ P.2.2.2.1 ∧ P.2.2.2.1 < tS P.1) (h : gok s) (hr : repI s) (x0 : 0 ≤ x) (x1 : x < hN s) (hp : ∀ p, p ∈ path → 0 ≤ p.2 ∧ p.2 < hN s) (hrem : P.2.2.2.2 = true) (hc : clsd (rowE (hG s) (hN s) (hE s) x) = true) (hn : fndM (sM s) P.2.2.2.1 (rowE (hG s) (hN s) (hE s) x) = none)
    (h0 : (spSeek P (fun k s' y => askS P m (path ++ [(k, x)]) s' y) path x 6 P.2.2.2.1 0 s).2.1 = 0) (hC : sC (spSeek P (fun k s' y => askS P m (path ++ [(k, x)]) s' y) path x 6 P.2.2.2.1 0 s).1 = sC s) (h40 : (sM (spSeek P (fun k s' y => askS P m (path ++ [(k, x)]) s' y) path x 6 P.2.2.2.1 0 s).1).length < 40) : fndM (sM (spSeek P (fun k s' y => askS P m (path ++ [(k, x)]) s' y) path x 6 P.2.2.2.1 0 s).1) P.2.2.2.1 (rowE (hG s) (hN s) (hE s) x) = none := by
  exact ask_once2 hT h hr x0 x1 hrem hc hn h0 hC
