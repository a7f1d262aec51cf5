/-! Calls by the kind of their answer; small rows that the written ones use. -/
theorem i32_d {x : Int} (h : (decide (-2147483648 ≤ x) && decide (x < 2147483648)) = true) : i32 x := by
  rw [Bool.and_eq_true, decide_eq_true_eq, decide_eq_true_eq] at h
  exact h
theorem ws_id (σ : jS) (F : Nat) (o : Int) : ws σ F o (rs σ F o) = σ := by
  unfold ws
  refine Prod.ext (funext fun F' => funext fun o' => ?_) rfl
  dsimp only
  split
  · rename_i q
    rw [q.1, q.2]; rfl
  · rfl
section JU
variable {n : Nat} {cd : List ax_En} {rt : Option FieldType} {pc pc' : Nat} {L L' : List (Option jV)} {S S' : List jV} {σ : jS} {Q : Option jV → jS → Prop} {a b c : Nat} {x y : Int}
theorem J_putS {idx ci kf G : Nat} {ty : FieldType} (hf : ax_fd cd pc = some (pc, .putfield idx, 3, ci, kf, c)) (hG : 1000 * ci + kf = G) (hnf : kf < ax_nf ci) (hty : ax_ty ci kf = .array ty) (hj : jk G = 1) (h0 : 0 ≤ x) (hn : pc + 3 = pc') (k : J n cd rt pc' L S σ Q) : J n cd rt pc L (ja G x :: jo ci x :: S) σ Q :=
  J_heap (σ1 := σ) (S' := S) hf rfl (fun d H Lm V F R kL kS => by
    have hl : 0 ≤ rl σ G x := jokS_hd kS
    have hx : x < rk σ ci := jokS_hd (jokS_tl kS)
    obtain ⟨g, hg, hg2⟩ := jVw_obj V h0 hx
    refine ⟨d, ax_set H (d.1 ci x) (.inr (ci, va_up g kf (.ref (d.2 G x)))), ?_, ?_, F, jGd.rf d σ, R, kL, jokS_tl (jokS_tl kS)⟩
    · show ax_step (pc, .putfield idx, 3, ci, kf, c) Lm (jcv d (ja G x) :: jcv d (jo ci x) :: S.map (jcv d)) H = _
      rw [jcv_o h0]
      show (match H.2.2 (d.1 ci x) with
        | .inr (ci', f) => if ci' = ci ∧ ax_fit (ax_ty ci' kf) (.ref (d.2 G x)) = true then some (pc + 3, Lm, S.map (jcv d), ax_set H (d.1 ci x) (.inr (ci', va_up f kf (.ref (d.2 G x))))) else none
        | _ => none) = _
      rw [hg]
      dsimp only
      rw [if_pos ⟨rfl, by rw [hty]; rfl⟩, hn]
    · have h := jVw_put (y := rs σ G x) V hG hnf h0 hx hg hg2 (v := .ref (d.2 G x)) (by
        unfold jfv
        rw [hj]
        show (if rl σ G x < 0 then Value.null else _) = _
        rw [if_neg (by omega)])
      rw [ws_id] at h
      exact h) k
theorem J_callI {e : ax_En} {mt : ax_Mt} {cd1 : List ax_En} {as rest : List jV} {Q1 : Int → jS → Prop} (hf : ax_fd cd pc = some e) (hc : ax_ctl e = 1) (hz : ax_Z[e.2.2.2.1]? = some (mt, cd1)) (hS : S = as.reverse ++ rest) (hlen : as.length = ax_na mt) (hrc : e.2.2.2.2.1 = 1 ∨ e.2.2.2.2.1 = 5 ∨ ∃ x as1, as = jo mt.1 x :: as1 ∧ 0 ≤ x) (hcat : (rest.map jcat).sum ≤ 8) (hsl : (jsl as).length ≤ mt.2.2.2.1) (hml : mt.2.2.2.1 ≤ 80) (hn : 1 ≤ n) (hm : jnmL L) (hms : jnmS rest) (hpc : pc + 3 = pc')
    (hcal : TrI (n - 1) e.2.2.2.1 as σ Q1) (k : ∀ x σ1, Q1 x σ1 → J n cd rt pc' L (ji x :: rest) σ1 Q) : J n cd rt pc L S σ Q :=
  J_call hf hc hz hS hlen hrc hcat hsl hml hn hm hms hpc hcal (fun r σ1 ⟨x, e, h⟩ => by subst e; exact k x σ1 h)
theorem J_callL {e : ax_En} {mt : ax_Mt} {cd1 : List ax_En} {as rest : List jV} {Q1 : Int → jS → Prop} (hf : ax_fd cd pc = some e) (hc : ax_ctl e = 1) (hz : ax_Z[e.2.2.2.1]? = some (mt, cd1)) (hS : S = as.reverse ++ rest) (hlen : as.length = ax_na mt) (hrc : e.2.2.2.2.1 = 1 ∨ e.2.2.2.2.1 = 5 ∨ ∃ x as1, as = jo mt.1 x :: as1 ∧ 0 ≤ x) (hcat : (rest.map jcat).sum ≤ 8) (hsl : (jsl as).length ≤ mt.2.2.2.1) (hml : mt.2.2.2.1 ≤ 80) (hn : 1 ≤ n) (hm : jnmL L) (hms : jnmS rest) (hpc : pc + 3 = pc')
    (hcal : TrL (n - 1) e.2.2.2.1 as σ Q1) (k : ∀ x σ1, Q1 x σ1 → J n cd rt pc' L (jl x :: rest) σ1 Q) : J n cd rt pc L S σ Q :=
  J_call hf hc hz hS hlen hrc hcat hsl hml hn hm hms hpc hcal (fun r σ1 ⟨x, e, h⟩ => by subst e; exact k x σ1 h)
theorem J_callO {e : ax_En} {mt : ax_Mt} {cd1 : List ax_En} {as rest : List jV} {k0 : Nat} {Q1 : Int → jS → Prop} (hf : ax_fd cd pc = some e) (hc : ax_ctl e = 1) (hz : ax_Z[e.2.2.2.1]? = some (mt, cd1)) (hS : S = as.reverse ++ rest) (hlen : as.length = ax_na mt) (hrc : e.2.2.2.2.1 = 1 ∨ e.2.2.2.2.1 = 5 ∨ ∃ x as1, as = jo mt.1 x :: as1 ∧ 0 ≤ x) (hcat : (rest.map jcat).sum ≤ 8) (hsl : (jsl as).length ≤ mt.2.2.2.1) (hml : mt.2.2.2.1 ≤ 80) (hn : 1 ≤ n) (hm : jnmL L) (hms : jnmS rest) (hpc : pc + 3 = pc')
    (hcal : TrO (n - 1) e.2.2.2.1 k0 as σ Q1) (k : ∀ x σ1, 0 ≤ x → Q1 x σ1 → J n cd rt pc' L (jo k0 x :: rest) σ1 Q) : J n cd rt pc L S σ Q :=
  J_call hf hc hz hS hlen hrc hcat hsl hml hn hm hms hpc hcal (fun r σ1 ⟨x, e, h0, h⟩ => by subst e; exact k x σ1 h0 h)
theorem J_callA {e : ax_En} {mt : ax_Mt} {cd1 : List ax_En} {as rest : List jV} {Q1 : Nat → Int → jS → Prop} (hf : ax_fd cd pc = some e) (hc : ax_ctl e = 1) (hz : ax_Z[e.2.2.2.1]? = some (mt, cd1)) (hS : S = as.reverse ++ rest) (hlen : as.length = ax_na mt) (hrc : e.2.2.2.2.1 = 1 ∨ e.2.2.2.2.1 = 5 ∨ ∃ x as1, as = jo mt.1 x :: as1 ∧ 0 ≤ x) (hcat : (rest.map jcat).sum ≤ 8) (hsl : (jsl as).length ≤ mt.2.2.2.1) (hml : mt.2.2.2.1 ≤ 80) (hn : 1 ≤ n) (hm : jnmL L) (hms : jnmS rest) (hpc : pc + 3 = pc')
    (hcal : TrA (n - 1) e.2.2.2.1 as σ Q1) (k : ∀ F o σ1, Q1 F o σ1 → J n cd rt pc' L (ja F o :: rest) σ1 Q) : J n cd rt pc L S σ Q :=
  J_call hf hc hz hS hlen hrc hcat hsl hml hn hm hms hpc hcal (fun r σ1 ⟨F, o, e, h⟩ => by subst e; exact k F o σ1 h)
theorem J_callV {e : ax_En} {mt : ax_Mt} {cd1 : List ax_En} {as rest : List jV} {Q1 : jS → Prop} (hf : ax_fd cd pc = some e) (hc : ax_ctl e = 1) (hz : ax_Z[e.2.2.2.1]? = some (mt, cd1)) (hS : S = as.reverse ++ rest) (hlen : as.length = ax_na mt) (hrc : e.2.2.2.2.1 = 1 ∨ e.2.2.2.2.1 = 5 ∨ ∃ x as1, as = jo mt.1 x :: as1 ∧ 0 ≤ x) (hcat : (rest.map jcat).sum ≤ 8) (hsl : (jsl as).length ≤ mt.2.2.2.1) (hml : mt.2.2.2.1 ≤ 80) (hn : 1 ≤ n) (hm : jnmL L) (hms : jnmS rest) (hpc : pc + 3 = pc')
    (hcal : TrV (n - 1) e.2.2.2.1 as σ Q1) (k : ∀ σ1, Q1 σ1 → J n cd rt pc' L rest σ1 Q) : J n cd rt pc L S σ Q :=
  J_call hf hc hz hS hlen hrc hcat hsl hml hn hm hms hpc hcal (fun r σ1 ⟨e, h⟩ => by subst e; exact k σ1 h)
end JU
