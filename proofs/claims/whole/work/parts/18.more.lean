/-! More rows of runs told by numbers: longs, the stack, branches, reading the heap, returns, calls. -/
section JQ
variable {n : Nat} {cd : List ax_En} {rt : Option FieldType} {pc pc' : Nat} {L L' : List (Option jV)} {S S' : List jV} {σ : jS} {Q : Option jV → jS → Prop} {a b c : Nat} {x y : Int}
theorem i32_lcm3 (x y : Int) : i32 (lcm3 x y) := by
  unfold lcm3
  split
  · exact ⟨by decide, by decide⟩
  · split <;> exact ⟨by decide, by decide⟩
theorem J_lcmp (hf : ax_fd cd pc = some (pc, .lcmp, 1, a, b, c)) (hn : pc + 1 = pc') (k : J n cd rt pc' L (ji (lcm3 x y) :: S) σ Q) : J n cd rt pc L (jl y :: jl x :: S) σ Q :=
  J_stk (S' := ji (lcm3 x y) :: S) hf rfl (fun d H Lm V F R kL kS => ⟨by
    have hx : i64 x := jokS_hd (jokS_tl kS)
    have hy : i64 y := jokS_hd kS
    show some (pc + 1, Lm, Value.int (lg_cmp (Int64.ofInt x) (Int64.ofInt y)) :: S.map (jcv d), H) = some (pc', Lm, Value.int (Int32.ofInt (lcm3 x y)) :: S.map (jcv d), H)
    rw [hn]
    have : lg_cmp (Int64.ofInt x) (Int64.ofInt y) = Int32.ofInt (lcm3 x y) := by
      unfold lg_cmp lcm3
      by_cases h1 : x < y
      · rw [if_pos h1, if_neg (fun h => by rw [gt_iff_lt, j_llt hy hx] at h; omega), if_neg (fun h => by rw [j_leq hx hy] at h; omega)]
        rfl
      · rw [if_neg h1]
        by_cases h2 : x = y
        · rw [if_pos h2, if_neg (fun h => by rw [gt_iff_lt, j_llt hy hx] at h; omega), if_pos (by rw [h2])]
          rfl
        · rw [if_neg h2, if_pos (by rw [gt_iff_lt, j_llt hy hx]; omega)]
          rfl
    rw [this], jokS_cs (jokS_tl (jokS_tl kS)) (i32_lcm3 x y)⟩) k
theorem J_i2l (hf : ax_fd cd pc = some (pc, .i2l, 1, a, b, c)) (hn : pc + 1 = pc') (k : J n cd rt pc' L (jl x :: S) σ Q) : J n cd rt pc L (ji x :: S) σ Q :=
  J_stk (S' := jl x :: S) hf rfl (fun d H Lm V F R kL kS => ⟨by
    have hx : i32 x := jokS_hd kS
    show some (pc + 1, Lm, Value.long (Int32.ofInt x).toInt64 :: S.map (jcv d), H) = some (pc', Lm, Value.long (Int64.ofInt x) :: S.map (jcv d), H)
    rw [hn, Int32.toInt64_ofInt (show (-2147483648 : Int) ≤ x from hx.1) (show x ≤ (2147483647 : Int) from by have := hx.2; omega)], jokS_cs (jokS_tl kS) (i32_64 (jokS_hd kS))⟩) k
theorem J_l2i (hf : ax_fd cd pc = some (pc, .l2i, 1, a, b, c)) (hr : i32 x) (hn : pc + 1 = pc') (k : J n cd rt pc' L (ji x :: S) σ Q) : J n cd rt pc L (jl x :: S) σ Q :=
  J_stk (S' := ji x :: S) hf rfl (fun d H Lm V F R kL kS => ⟨by
    show some (pc + 1, Lm, Value.int (Int64.ofInt x).toInt32 :: S.map (jcv d), H) = some (pc', Lm, Value.int (Int32.ofInt x) :: S.map (jcv d), H)
    rw [hn, Int64.toInt32_ofInt], jokS_cs (jokS_tl kS) hr⟩) k
theorem J_i2b (hf : ax_fd cd pc = some (pc, .i2b, 1, a, b, c)) (hn : pc + 1 = pc') (k : J n cd rt pc' L (ji (bI8 x) :: S) σ Q) : J n cd rt pc L (ji x :: S) σ Q :=
  J_stk (S' := ji (bI8 x) :: S) hf rfl (fun d H Lm V F R kL kS => ⟨by
    show some (pc + 1, Lm, Value.int (Int32.ofInt x).toInt8.toInt32 :: S.map (jcv d), H) = some (pc', Lm, Value.int (Int32.ofInt (bI8 x)) :: S.map (jcv d), H)
    rw [hn, bI8, Int32.ofInt_toInt], jokS_cs (jokS_tl kS) (i32_of _)⟩) k
theorem J_dup {v : jV} (hf : ax_fd cd pc = some (pc, .dup, 1, a, b, c)) (hc : jcat v = 1) (hn : pc + 1 = pc') (k : J n cd rt pc' L (v :: v :: S) σ Q) : J n cd rt pc L (v :: S) σ Q :=
  J_stk hf rfl (fun d H Lm V F R kL kS => ⟨by
    show (if (jcv d v).category = 1 then some (pc + 1, Lm, jcv d v :: jcv d v :: S.map (jcv d), H) else none) = _
    rw [if_pos ((jcv_cat d v).trans hc), hn]; rfl, jokS_cs kS (jokS_hd kS)⟩) k
theorem J_pop {v : jV} (hf : ax_fd cd pc = some (pc, .pop, 1, a, b, c)) (hc : jcat v = 1) (hn : pc + 1 = pc') (k : J n cd rt pc' L S σ Q) : J n cd rt pc L (v :: S) σ Q :=
  J_stk hf rfl (fun d H Lm V F R kL kS => ⟨by
    show (if (jcv d v).category = 1 then some (pc + 1, Lm, S.map (jcv d), H) else none) = _
    rw [if_pos ((jcv_cat d v).trans hc), hn], jokS_tl kS⟩) k
theorem J_dup2 {v w : jV} (hf : ax_fd cd pc = some (pc, .dup2, 1, a, b, c)) (hc : jcat v = 1) (hc2 : jcat w = 1) (hn : pc + 1 = pc') (k : J n cd rt pc' L (v :: w :: v :: w :: S) σ Q) : J n cd rt pc L (v :: w :: S) σ Q :=
  J_stk hf rfl (fun d H Lm V F R kL kS => ⟨by
    show (if (jcv d v).category = 1 ∧ (jcv d w).category = 1 then some (pc + 1, Lm, jcv d v :: jcv d w :: jcv d v :: jcv d w :: S.map (jcv d), H) else none) = _
    rw [if_pos ⟨(jcv_cat d v).trans hc, (jcv_cat d w).trans hc2⟩, hn]; rfl, jokS_cs (jokS_cs kS (jokS_hd (jokS_tl kS))) (jokS_hd kS)⟩) k
theorem J_goto {off : Int} (hf : ax_fd cd pc = some (pc, .goto off, 3, a, b, c)) (ht : ax_to pc off = pc') (k : J n cd rt pc' L S σ Q) : J n cd rt pc L S σ Q :=
  J_stk hf rfl (fun d H Lm V F R kL kS => ⟨by rw [← ht]; rfl, kS⟩) k
/-- conditions of branches -/
theorem jc_eq {x y : Int} (hx : i32 x) (hy : i32 y) : ax_cnd .eq (Int32.ofInt x) (Int32.ofInt y) = decide (x = y) := decide_eq_decide.mpr (j_eq hx hy)
theorem jc_ne {x y : Int} (hx : i32 x) (hy : i32 y) : ax_cnd .ne (Int32.ofInt x) (Int32.ofInt y) = decide (¬ x = y) := decide_eq_decide.mpr (not_congr (j_eq hx hy))
theorem jc_lt {x y : Int} (hx : i32 x) (hy : i32 y) : ax_cnd .lt (Int32.ofInt x) (Int32.ofInt y) = decide (x < y) := decide_eq_decide.mpr (j_lt hx hy)
theorem jc_ge {x y : Int} (hx : i32 x) (hy : i32 y) : ax_cnd .ge (Int32.ofInt x) (Int32.ofInt y) = decide (y ≤ x) := decide_eq_decide.mpr (j_le hy hx)
theorem jc_gt {x y : Int} (hx : i32 x) (hy : i32 y) : ax_cnd .gt (Int32.ofInt x) (Int32.ofInt y) = decide (y < x) := decide_eq_decide.mpr (j_lt hy hx)
theorem jc_le {x y : Int} (hx : i32 x) (hy : i32 y) : ax_cnd .le (Int32.ofInt x) (Int32.ofInt y) = decide (x ≤ y) := decide_eq_decide.mpr (j_le hx hy)
theorem J_icmp {cc : Jvm.ClassFile.Cond} {off : Int} {t f : Nat} {P : Prop} [Decidable P] {A B : Prop} (hf : ax_fd cd pc = some (pc, .if_icmp cc off, 3, a, b, c)) (ht : ax_to pc off = t) (hn : pc + 3 = f) (hp : i32 x → i32 y → ax_cnd cc (Int32.ofInt x) (Int32.ofInt y) = decide P) (W : if P then A else B) (kt : A → J n cd rt t L S σ Q) (kf : B → J n cd rt f L S σ Q) : J n cd rt pc L (ji y :: ji x :: S) σ Q := by
  by_cases q : P
  · rw [if_pos q] at W
    exact J_stk hf rfl (fun d H Lm V F R kL kS => ⟨by
      show some (if ax_cnd cc (Int32.ofInt x) (Int32.ofInt y) = true then ax_to pc off else pc + 3, Lm, S.map (jcv d), H) = _
      rw [hp (jokS_hd (jokS_tl kS)) (jokS_hd kS), if_pos (decide_eq_true q), ht], jokS_tl (jokS_tl kS)⟩) (kt W)
  · rw [if_neg q] at W
    exact J_stk hf rfl (fun d H Lm V F R kL kS => ⟨by
      show some (if ax_cnd cc (Int32.ofInt x) (Int32.ofInt y) = true then ax_to pc off else pc + 3, Lm, S.map (jcv d), H) = _
      rw [hp (jokS_hd (jokS_tl kS)) (jokS_hd kS), if_neg (fun w => q (of_decide_eq_true w)), hn], jokS_tl (jokS_tl kS)⟩) (kf W)
theorem J_if {cc : Jvm.ClassFile.Cond} {off : Int} {t f : Nat} {P : Prop} [Decidable P] {A B : Prop} (hf : ax_fd cd pc = some (pc, .ifCond cc off, 3, a, b, c)) (ht : ax_to pc off = t) (hn : pc + 3 = f) (hp : i32 x → i32 0 → ax_cnd cc (Int32.ofInt x) (Int32.ofInt 0) = decide P) (W : if P then A else B) (kt : A → J n cd rt t L S σ Q) (kf : B → J n cd rt f L S σ Q) : J n cd rt pc L (ji x :: S) σ Q := by
  by_cases q : P
  · rw [if_pos q] at W
    exact J_stk hf rfl (fun d H Lm V F R kL kS => ⟨by
      show some (if ax_cnd cc (Int32.ofInt x) (Int32.ofInt 0) = true then ax_to pc off else pc + 3, Lm, S.map (jcv d), H) = _
      rw [hp (jokS_hd kS) i32_0, if_pos (decide_eq_true q), ht], jokS_tl kS⟩) (kt W)
  · rw [if_neg q] at W
    exact J_stk hf rfl (fun d H Lm V F R kL kS => ⟨by
      show some (if ax_cnd cc (Int32.ofInt x) (Int32.ofInt 0) = true then ax_to pc off else pc + 3, Lm, S.map (jcv d), H) = _
      rw [hp (jokS_hd kS) i32_0, if_neg (fun w => q (of_decide_eq_true w)), hn], jokS_tl kS⟩) (kf W)
/-- a condition that is decided by itself -/
theorem J_icmp_t {cc : Jvm.ClassFile.Cond} {off : Int} (hf : ax_fd cd pc = some (pc, .if_icmp cc off, 3, a, b, c)) (ht : ax_to pc off = pc') (hp : ax_cnd cc (Int32.ofInt x) (Int32.ofInt y) = true) (k : J n cd rt pc' L S σ Q) : J n cd rt pc L (ji y :: ji x :: S) σ Q :=
  J_stk hf rfl (fun d H Lm V F R kL kS => ⟨by
      show some (if ax_cnd cc (Int32.ofInt x) (Int32.ofInt y) = true then ax_to pc off else pc + 3, Lm, S.map (jcv d), H) = _
      rw [if_pos hp, ht], jokS_tl (jokS_tl kS)⟩) k
theorem J_icmp_f {cc : Jvm.ClassFile.Cond} {off : Int} (hf : ax_fd cd pc = some (pc, .if_icmp cc off, 3, a, b, c)) (hn : pc + 3 = pc') (hp : ax_cnd cc (Int32.ofInt x) (Int32.ofInt y) = false) (k : J n cd rt pc' L S σ Q) : J n cd rt pc L (ji y :: ji x :: S) σ Q :=
  J_stk hf rfl (fun d H Lm V F R kL kS => ⟨by
      show some (if ax_cnd cc (Int32.ofInt x) (Int32.ofInt y) = true then ax_to pc off else pc + 3, Lm, S.map (jcv d), H) = _
      rw [hp, hn]; rfl, jokS_tl (jokS_tl kS)⟩) k
theorem J_if_t {cc : Jvm.ClassFile.Cond} {off : Int} (hf : ax_fd cd pc = some (pc, .ifCond cc off, 3, a, b, c)) (ht : ax_to pc off = pc') (hp : ax_cnd cc (Int32.ofInt x) (Int32.ofInt 0) = true) (k : J n cd rt pc' L S σ Q) : J n cd rt pc L (ji x :: S) σ Q :=
  J_stk hf rfl (fun d H Lm V F R kL kS => ⟨by
      show some (if ax_cnd cc (Int32.ofInt x) (Int32.ofInt 0) = true then ax_to pc off else pc + 3, Lm, S.map (jcv d), H) = _
      rw [if_pos hp, ht], jokS_tl kS⟩) k
theorem J_if_f {cc : Jvm.ClassFile.Cond} {off : Int} (hf : ax_fd cd pc = some (pc, .ifCond cc off, 3, a, b, c)) (hn : pc + 3 = pc') (hp : ax_cnd cc (Int32.ofInt x) (Int32.ofInt 0) = false) (k : J n cd rt pc' L S σ Q) : J n cd rt pc L (ji x :: S) σ Q :=
  J_stk hf rfl (fun d H Lm V F R kL kS => ⟨by
      show some (if ax_cnd cc (Int32.ofInt x) (Int32.ofInt 0) = true then ax_to pc off else pc + 3, Lm, S.map (jcv d), H) = _
      rw [hp, hn]; rfl, jokS_tl kS⟩) k
theorem J_null {off : Int} {t f k0 : Nat} {A B : Prop} (hf : ax_fd cd pc = some (pc, .ifnull off, 3, a, b, c)) (ht : ax_to pc off = t) (hn : pc + 3 = f) (W : if x < 0 then A else B) (kt : A → J n cd rt t L S σ Q) (kf : B → J n cd rt f L S σ Q) : J n cd rt pc L (jo k0 x :: S) σ Q := by
  by_cases q : x < 0
  · rw [if_pos q] at W
    exact J_stk hf rfl (fun d H Lm V F R kL kS => ⟨by
      show ax_step (pc, .ifnull off, 3, a, b, c) Lm ((if x < 0 then Value.null else .ref (d.1 k0 x)) :: S.map (jcv d)) H = _
      rw [if_pos q, ← ht]; rfl, jokS_tl kS⟩) (kt W)
  · rw [if_neg q] at W
    exact J_stk hf rfl (fun d H Lm V F R kL kS => ⟨by
      show ax_step (pc, .ifnull off, 3, a, b, c) Lm ((if x < 0 then Value.null else .ref (d.1 k0 x)) :: S.map (jcv d)) H = _
      rw [if_neg q, ← hn]; rfl, jokS_tl kS⟩) (kf W)
theorem J_nonnull {off : Int} {t f k0 : Nat} {A B : Prop} (hf : ax_fd cd pc = some (pc, .ifnonnull off, 3, a, b, c)) (ht : ax_to pc off = t) (hn : pc + 3 = f) (W : if x < 0 then A else B) (kt : A → J n cd rt f L S σ Q) (kf : B → J n cd rt t L S σ Q) : J n cd rt pc L (jo k0 x :: S) σ Q := by
  by_cases q : x < 0
  · rw [if_pos q] at W
    exact J_stk hf rfl (fun d H Lm V F R kL kS => ⟨by
      show ax_step (pc, .ifnonnull off, 3, a, b, c) Lm ((if x < 0 then Value.null else .ref (d.1 k0 x)) :: S.map (jcv d)) H = _
      rw [if_pos q, ← hn]; rfl, jokS_tl kS⟩) (kt W)
  · rw [if_neg q] at W
    exact J_stk hf rfl (fun d H Lm V F R kL kS => ⟨by
      show ax_step (pc, .ifnonnull off, 3, a, b, c) Lm ((if x < 0 then Value.null else .ref (d.1 k0 x)) :: S.map (jcv d)) H = _
      rw [if_neg q, ← ht]; rfl, jokS_tl kS⟩) (kf W)
theorem J_swD {dd lo hi : Int} {offs : Array Int} {len : Nat} (hf : ax_fd cd pc = some (pc, .tableswitch dd lo hi offs, len, a, b, c)) (hx : x < lo ∨ hi < x) (ht : ax_to pc dd = pc') (k : J n cd rt pc' L S σ Q) : J n cd rt pc L (ji x :: S) σ Q :=
  J_stk hf rfl (fun d H Lm V F R kL kS => ⟨by
    have hx32 : i32 x := jokS_hd kS
    show (if (Int32.ofInt x).toInt < lo ∨ hi < (Int32.ofInt x).toInt then some (ax_to pc dd, Lm, S.map (jcv d), H) else _) = _
    rw [i32_in hx32, if_pos hx, ht], jokS_tl kS⟩) k
theorem J_swC {dd lo hi off : Int} {offs : Array Int} {len i : Nat} (hf : ax_fd cd pc = some (pc, .tableswitch dd lo hi offs, len, a, b, c)) (hx : x = lo + i) (hle : lo + i ≤ hi) (ho : offs.toList[i]? = some off) (ht : ax_to pc off = pc') (k : J n cd rt pc' L S σ Q) : J n cd rt pc L (ji x :: S) σ Q :=
  J_stk hf rfl (fun d H Lm V F R kL kS => ⟨by
    have hx32 : i32 x := jokS_hd kS
    show (if (Int32.ofInt x).toInt < lo ∨ hi < (Int32.ofInt x).toInt then some (ax_to pc dd, Lm, S.map (jcv d), H) else match offs.toList[((Int32.ofInt x).toInt - lo).toNat]? with
      | some off => some (ax_to pc off, Lm, S.map (jcv d), H)
      | none => none) = _
    rw [i32_in hx32, if_neg (by omega), show (x - lo).toNat = i by omega, ho, ← ht], jokS_tl kS⟩) k
/-- reading fields -/
theorem jVw_obj {d : jD} {H : ax_H} (V : jVw d σ H) {k : Nat} (h0 : 0 ≤ x) (hk : x < rk σ k) : ∃ g, H.2.2 (d.1 k x) = .inr (k, g) ∧ ∀ j, j < ax_nf k → g j = jfv d σ (1000 * k + j) x := V.1 k x h0 hk
theorem J_get_s {idx ci kf G : Nat} {v : jV} (hf : ax_fd cd pc = some (pc, .getfield idx, 3, ci, kf, c)) (hG : 1000 * ci + kf = G) (hnf : kf < ax_nf ci) (h0 : 0 ≤ x) (hv : ∀ d, jfv d σ G x = jcv d v) (hk : jWF σ → jok σ v) (hn : pc + 3 = pc') (k : J n cd rt pc' L (v :: S) σ Q) : J n cd rt pc L (jo ci x :: S) σ Q :=
  J_stk (S' := v :: S) hf rfl (fun d H Lm V F R kL kS => ⟨by
    obtain ⟨g, hg, hg2⟩ := jVw_obj V h0 (jokS_hd kS)
    show ax_step (pc, .getfield idx, 3, ci, kf, c) Lm (jcv d (jo ci x) :: S.map (jcv d)) H = _
    rw [jcv_o h0]
    show (match H.2.2 (d.1 ci x) with
      | .inr (ci', f) => if ci' = ci then some (pc + 3, Lm, f kf :: S.map (jcv d), H) else none
      | _ => none) = _
    rw [hg]
    dsimp only
    rw [if_pos rfl, hg2 kf hnf, hG, hv d, hn]
    rfl, jokS_cs (jokS_tl kS) (hk F)⟩) k
theorem J_getI {idx ci kf G : Nat} (hf : ax_fd cd pc = some (pc, .getfield idx, 3, ci, kf, c)) (hG : 1000 * ci + kf = G) (hnf : kf < ax_nf ci) (hj : jk G = 0) (h0 : 0 ≤ x) (hn : pc + 3 = pc') (k : J n cd rt pc' L (ji (rs σ G x) :: S) σ Q) : J n cd rt pc L (jo ci x :: S) σ Q :=
  J_get_s hf hG hnf h0 (v := ji (rs σ G x)) (fun d => by unfold jfv; rw [hj]; rfl) (fun F => F.1 G x) hn k
theorem J_getO {idx ci kf G k0 : Nat} (hf : ax_fd cd pc = some (pc, .getfield idx, 3, ci, kf, c)) (hG : 1000 * ci + kf = G) (hnf : kf < ax_nf ci) (hj : jk G = k0 + 2) (h0 : 0 ≤ x) (hn : pc + 3 = pc') (k : J n cd rt pc' L (jo k0 (rs σ G x) :: S) σ Q) : J n cd rt pc L (jo ci x :: S) σ Q :=
  J_get_s hf hG hnf h0 (v := jo k0 (rs σ G x)) (fun d => by unfold jfv; rw [hj]; rfl) (fun F => F.2.2.1 G x k0 hj) hn k
theorem J_getA {idx ci kf G : Nat} (hf : ax_fd cd pc = some (pc, .getfield idx, 3, ci, kf, c)) (hG : 1000 * ci + kf = G) (hnf : kf < ax_nf ci) (hj : jk G = 1) (h0 : 0 ≤ x) (hl : 0 ≤ rl σ G x) (hn : pc + 3 = pc') (k : J n cd rt pc' L (ja G x :: S) σ Q) : J n cd rt pc L (jo ci x :: S) σ Q :=
  J_get_s hf hG hnf h0 (v := ja G x) (fun d => by
    unfold jfv; rw [hj]
    show (if rl σ G x < 0 then Value.null else _) = _
    rw [if_neg (by omega)]; rfl) (fun _ => hl) hn k
/-- reading rows -/
theorem J_alen {G : Nat} {o : Int} (hf : ax_fd cd pc = some (pc, .arraylength, 1, a, b, c)) (ht : jt G ≤ 4) (hn : pc + 1 = pc') (k : J n cd rt pc' L (ji (rl σ G o) :: S) σ Q) : J n cd rt pc L (ja G o :: S) σ Q :=
  J_stk (S' := ji (rl σ G o) :: S) hf rfl (fun d H Lm V F R kL kS => ⟨by
    have hl : 0 ≤ rl σ G o := jokS_hd kS
    show (match H.2.2 (d.2 G o) with
      | .inl (t, n, _) => if t ≤ 4 then some (pc + 1, Lm, Value.int (Int32.ofNat n) :: S.map (jcv d), H) else none
      | _ => none) = _
    rw [V.2.1 G o hl]
    dsimp only
    rw [if_pos ht, hn, ← Int32.ofInt_eq_ofNat, Int.toNat_of_nonneg hl]
    rfl, jokS_cs (jokS_tl kS) (show i32 (rl σ G o) from ⟨by have : 0 ≤ rl σ G o := jokS_hd kS; omega, by have := F.2.2.2.2.2.1 G o; omega⟩)⟩) k
theorem jct_int {d : jD} {t : Nat} {g : Int → Int} (h3 : ¬ t = 3) (h4 : ¬ t = 4) : jct d t g = .inl (fun j : Nat => Int32.ofInt (g j)) := by unfold jct; rw [if_neg h3, if_neg h4]
theorem J_iald {G : Nat} {o : Int} (hf : ax_fd cd pc = some (pc, .iaload, 1, a, b, c)) (ht : jt G = 0) (h0 : 0 ≤ x) (h1 : x < rl σ G o) (hn : pc + 1 = pc') (k : J n cd rt pc' L (ji (ra σ G o x) :: S) σ Q) : J n cd rt pc L (ji x :: ja G o :: S) σ Q :=
  J_stk (S' := ji (ra σ G o x) :: S) hf rfl (fun d H Lm V F R kL kS => ⟨by
    have hx : i32 x := jokS_hd kS
    show (match H.2.2 (d.2 G o) with
      | .inl (t, n, .inl f) => if t = 0 ∧ ax_ix (Int32.ofInt x) n = true then some (pc + 1, Lm, Value.int (f (Int32.ofInt x).toNatClampNeg) :: S.map (jcv d), H) else none
      | _ => none) = _
    rw [V.2.1 G o (by omega), ht, jct_int (by decide) (by decide)]
    dsimp only
    rw [if_pos ⟨rfl, j_ix hx h0 h1⟩, hn, j_clamp hx, Int.toNat_of_nonneg h0]
    rfl, jokS_cs (jokS_tl (jokS_tl kS)) (F.2.1 G o x)⟩) k
theorem J_bald {G : Nat} {o : Int} (hf : ax_fd cd pc = some (pc, .baload, 1, a, b, c)) (ht : jt G = 1 ∨ jt G = 2) (h0 : 0 ≤ x) (h1 : x < rl σ G o) (hn : pc + 1 = pc') (k : J n cd rt pc' L (ji (ra σ G o x) :: S) σ Q) : J n cd rt pc L (ji x :: ja G o :: S) σ Q :=
  J_stk (S' := ji (ra σ G o x) :: S) hf rfl (fun d H Lm V F R kL kS => ⟨by
    have hx : i32 x := jokS_hd kS
    show (match H.2.2 (d.2 G o) with
      | .inl (t, n, .inl f) => if (t = 1 ∨ t = 2) ∧ ax_ix (Int32.ofInt x) n = true then some (pc + 1, Lm, Value.int (f (Int32.ofInt x).toNatClampNeg) :: S.map (jcv d), H) else none
      | _ => none) = _
    rw [V.2.1 G o (by omega), jct_int (by omega) (by omega)]
    dsimp only
    rw [if_pos ⟨ht, j_ix hx h0 h1⟩, hn, j_clamp hx, Int.toNat_of_nonneg h0]
    rfl, jokS_cs (jokS_tl (jokS_tl kS)) (F.2.1 G o x)⟩) k
theorem J_lald {G : Nat} {o : Int} (hf : ax_fd cd pc = some (pc, .laload, 1, a, b, c)) (ht : jt G = 3) (h0 : 0 ≤ x) (h1 : x < rl σ G o) (hn : pc + 1 = pc') (k : J n cd rt pc' L (jl (ra σ G o x) :: S) σ Q) : J n cd rt pc L (ji x :: ja G o :: S) σ Q :=
  J_stk (S' := jl (ra σ G o x) :: S) hf rfl (fun d H Lm V F R kL kS => ⟨by
    have hx : i32 x := jokS_hd kS
    show (match H.2.2 (d.2 G o) with
      | .inl (t, n, .inr (.inl f)) => if t = 3 ∧ ax_ix (Int32.ofInt x) n = true then some (pc + 1, Lm, Value.long (f (Int32.ofInt x).toNatClampNeg) :: S.map (jcv d), H) else none
      | _ => none) = _
    rw [V.2.1 G o (by omega), ht]
    unfold jct
    rw [if_pos rfl]
    dsimp only
    rw [if_pos ⟨rfl, j_ix hx h0 h1⟩, hn, j_clamp hx, Int.toNat_of_nonneg h0]
    rfl, jokS_cs (jokS_tl (jokS_tl kS)) (i32_64 (F.2.1 G o x))⟩) k
theorem J_aald {G : Nat} {o : Int} (hf : ax_fd cd pc = some (pc, .aaload, 1, a, b, c)) (ht : jt G = 4) (h0 : 0 ≤ x) (h1 : x < rl σ G o) (hn : pc + 1 = pc') (k : J n cd rt pc' L (jo 0 (ra σ G o x) :: S) σ Q) : J n cd rt pc L (ji x :: ja G o :: S) σ Q :=
  J_stk (S' := jo 0 (ra σ G o x) :: S) hf rfl (fun d H Lm V F R kL kS => ⟨by
    have hx : i32 x := jokS_hd kS
    show (match H.2.2 (d.2 G o) with
      | .inl (t, n, .inr (.inr (.inr (.inr f)))) => if t = 4 ∧ ax_ix (Int32.ofInt x) n = true then some (pc + 1, Lm, ax_rf (f (Int32.ofInt x).toNatClampNeg) :: S.map (jcv d), H) else none
      | _ => none) = _
    rw [V.2.1 G o (by omega), ht]
    unfold jct
    rw [if_neg (by decide), if_pos rfl]
    dsimp only
    rw [if_pos ⟨rfl, j_ix hx h0 h1⟩, hn, j_clamp hx, Int.toNat_of_nonneg h0]
    show some (pc', Lm, ax_rf (if ra σ G o x < 0 then none else some (d.1 0 (ra σ G o x))) :: S.map (jcv d), H) = some (pc', Lm, (if ra σ G o x < 0 then Value.null else .ref (d.1 0 (ra σ G o x))) :: S.map (jcv d), H)
    split <;> rfl, jokS_cs (jokS_tl (jokS_tl kS)) (F.2.2.2.1 G o x ht)⟩) k
/-- returns -/
theorem J_end {e : ax_En} {r : Option jV} (hf : ax_fd cd pc = some e) (hc : ax_ctl e = 0) (hr : ∀ d H, jokS σ S → ax_ret rt e (S.map (jcv d)) H = some (r.map (jcv d), H)) (hk : jokS σ S → ∀ v, r = some v → jok σ v) (hq : Q r σ) : J n cd rt pc L S σ Q := fun d H Lm V F R kL kS =>
  ⟨d, H, r, σ, V, F, jGd.rf d σ, hk kS, hq, r_ret hf hc (hr d H kS)⟩
theorem J_iret (hf : ax_fd cd pc = some (pc, .ireturn, 1, a, b, c)) (hrt : rt = some .int) (hq : Q (some (ji x)) σ) : J n cd rt pc L [ji x] σ Q :=
  J_end (r := some (ji x)) hf rfl (fun d H _ => by
    show (if rt = some .int ∨ _ then some (some (Value.int (Int32.ofInt x)), H) else none) = _
    rw [if_pos (Or.inl hrt)]; rfl) (fun kS v hv => by cases hv; exact jokS_hd kS) hq
theorem J_zret (hf : ax_fd cd pc = some (pc, .ireturn, 1, a, b, c)) (hrt : rt = some .boolean) (hx : x = 0 ∨ x = 1) (hq : Q (some (ji x)) σ) : J n cd rt pc L [ji x] σ Q :=
  J_end (r := some (ji x)) hf rfl (fun d H _ => by
    show (if rt = some .int ∨ (rt = some .boolean ∧ (Int32.ofInt x = 0 ∨ Int32.ofInt x = 1)) then some (some (Value.int (Int32.ofInt x)), H) else none) = _
    rw [if_pos (Or.inr ⟨hrt, by rcases hx with rfl | rfl; exact Or.inl rfl; exact Or.inr rfl⟩)]; rfl) (fun kS v hv => by cases hv; exact jokS_hd kS) hq
theorem J_lret (hf : ax_fd cd pc = some (pc, .lreturn, 1, a, b, c)) (hrt : rt = some .long) (hq : Q (some (jl x)) σ) : J n cd rt pc L [jl x] σ Q :=
  J_end (r := some (jl x)) hf rfl (fun d H _ => by
    show (if rt = some .long then some (some (Value.long (Int64.ofInt x)), H) else none) = _
    rw [if_pos hrt]; rfl) (fun kS v hv => by cases hv; exact jokS_hd kS) hq
theorem J_vret (hf : ax_fd cd pc = some (pc, .return_, 1, a, b, c)) (hrt : rt = none) (hq : Q none σ) : J n cd rt pc L [] σ Q :=
  J_end (r := none) hf rfl (fun d H _ => by
    show (if rt = none then some ((none : Option Value), H) else none) = _
    rw [if_pos hrt]; rfl) (fun kS v hv => by cases hv) hq
theorem J_oret {C : String} {k0 : Nat} (hf : ax_fd cd pc = some (pc, .areturn, 1, a, b, c)) (hrt : rt = some (.object C)) (h0 : 0 ≤ x) (hq : Q (some (jo k0 x)) σ) : J n cd rt pc L [jo k0 x] σ Q :=
  J_end (r := some (jo k0 x)) hf rfl (fun d H _ => by
    subst hrt
    show ax_ret (some (.object C)) (pc, .areturn, 1, a, b, c) [jcv d (jo k0 x)] H = some (some (jcv d (jo k0 x)), H)
    rw [jcv_o h0]; rfl) (fun kS v hv => by cases hv; exact jokS_hd kS) hq
theorem J_aret {ty : FieldType} {G : Nat} {o : Int} (hf : ax_fd cd pc = some (pc, .areturn, 1, a, b, c)) (hrt : rt = some (.array ty)) (hq : Q (some (ja G o)) σ) : J n cd rt pc L [ja G o] σ Q :=
  J_end (r := some (ja G o)) hf rfl (fun d H _ => by
    subst hrt
    rfl) (fun kS v hv => by cases hv; exact jokS_hd kS) hq
/-- the least and the greatest -/
theorem J_max {idx m : Nat} (hf : ax_fd cd pc = some (pc, .invokestatic idx, 3, m, 7, c)) (h1 : 1 ≤ n) (hcat : (S.map jcat).sum ≤ 10) (hn : pc + 3 = pc') (k : J n cd rt pc' L (ji (max x y) :: S) σ Q) : J n cd rt pc L (ji y :: ji x :: S) σ Q :=
  J_pureW (S' := ji (max x y) :: S) (L' := L) (pc' := pc') hf rfl h1 (fun d => by
    show (((ji y :: ji x :: S).map (jcv d)).map fun v => v.category).sum ≤ 20
    rw [List.map_map, show ((fun v : Value => v.category) ∘ jcv d) = jcat from funext fun v => jcv_cat d v]
    show 1 + (1 + (S.map jcat).sum) ≤ 20
    omega) (fun d H Lm V F R kL kS => ⟨⟨Lm, by
      have hx : i32 x := jokS_hd (jokS_tl kS)
      have hy : i32 y := jokS_hd kS
      show some (pc + 3, Lm, Value.int (if Int32.ofInt x < Int32.ofInt y then Int32.ofInt y else Int32.ofInt x) :: S.map (jcv d), H) = some (pc', Lm, Value.int (Int32.ofInt (max x y)) :: S.map (jcv d), H)
      rw [hn]
      by_cases h : x < y
      · rw [if_pos ((j_lt hx hy).mpr h), show max x y = y by omega]
      · rw [if_neg (fun g => h ((j_lt hx hy).mp g)), show max x y = x by omega], R⟩, kL, jokS_cs (jokS_tl (jokS_tl kS)) (by
        have hx : i32 x := jokS_hd (jokS_tl kS)
        have hy : i32 y := jokS_hd kS
        show i32 (max x y)
        by_cases h : x < y
        · rw [show max x y = y by omega]; exact hy
        · rw [show max x y = x by omega]; exact hx)⟩) k
theorem J_min {idx m : Nat} (hf : ax_fd cd pc = some (pc, .invokestatic idx, 3, m, 8, c)) (h1 : 1 ≤ n) (hcat : (S.map jcat).sum ≤ 10) (hn : pc + 3 = pc') (k : J n cd rt pc' L (ji (min x y) :: S) σ Q) : J n cd rt pc L (ji y :: ji x :: S) σ Q :=
  J_pureW (S' := ji (min x y) :: S) (L' := L) (pc' := pc') hf rfl h1 (fun d => by
    show (((ji y :: ji x :: S).map (jcv d)).map fun v => v.category).sum ≤ 20
    rw [List.map_map, show ((fun v : Value => v.category) ∘ jcv d) = jcat from funext fun v => jcv_cat d v]
    show 1 + (1 + (S.map jcat).sum) ≤ 20
    omega) (fun d H Lm V F R kL kS => ⟨⟨Lm, by
      have hx : i32 x := jokS_hd (jokS_tl kS)
      have hy : i32 y := jokS_hd kS
      show some (pc + 3, Lm, Value.int (if Int32.ofInt y < Int32.ofInt x then Int32.ofInt y else Int32.ofInt x) :: S.map (jcv d), H) = some (pc', Lm, Value.int (Int32.ofInt (min x y)) :: S.map (jcv d), H)
      rw [hn]
      by_cases h : y < x
      · rw [if_pos ((j_lt hy hx).mpr h), show min x y = y by omega]
      · rw [if_neg (fun g => h ((j_lt hy hx).mp g)), show min x y = x by omega], R⟩, kL, jokS_cs (jokS_tl (jokS_tl kS)) (by
        have hx : i32 x := jokS_hd (jokS_tl kS)
        have hy : i32 y := jokS_hd kS
        show i32 (min x y)
        by_cases h : y < x
        · rw [show min x y = y by omega]; exact hy
        · rw [show min x y = x by omega]; exact hx)⟩) k
theorem J_minl {idx m : Nat} (hf : ax_fd cd pc = some (pc, .invokestatic idx, 3, m, 9, c)) (h1 : 1 ≤ n) (hcat : (S.map jcat).sum ≤ 10) (hn : pc + 3 = pc') (k : J n cd rt pc' L (jl (min x y) :: S) σ Q) : J n cd rt pc L (jl y :: jl x :: S) σ Q :=
  J_pureW (S' := jl (min x y) :: S) (L' := L) (pc' := pc') hf rfl h1 (fun d => by
    show (((jl y :: jl x :: S).map (jcv d)).map fun v => v.category).sum ≤ 20
    rw [List.map_map, show ((fun v : Value => v.category) ∘ jcv d) = jcat from funext fun v => jcv_cat d v]
    show 2 + (2 + (S.map jcat).sum) ≤ 20
    omega) (fun d H Lm V F R kL kS => ⟨⟨Lm, by
      have hx : i64 x := jokS_hd (jokS_tl kS)
      have hy : i64 y := jokS_hd kS
      show some (pc + 3, Lm, Value.long (if Int64.ofInt y < Int64.ofInt x then Int64.ofInt y else Int64.ofInt x) :: S.map (jcv d), H) = some (pc', Lm, Value.long (Int64.ofInt (min x y)) :: S.map (jcv d), H)
      rw [hn]
      by_cases h : y < x
      · rw [if_pos ((j_llt hy hx).mpr h), show min x y = y by omega]
      · rw [if_neg (fun g => h ((j_llt hy hx).mp g)), show min x y = x by omega], R⟩, kL, jokS_cs (jokS_tl (jokS_tl kS)) (by
        have hx : i64 x := jokS_hd (jokS_tl kS)
        have hy : i64 y := jokS_hd kS
        show i64 (min x y)
        by_cases h : y < x
        · rw [show min x y = y by omega]; exact hy
        · rw [show min x y = x by omega]; exact hx)⟩) k
/-- the constructor of Object -/
theorem J_oinit {idx m k0 : Nat} (hf : ax_fd cd pc = some (pc, .invokespecial idx, 3, m, 3, c)) (h0 : 0 ≤ x) (h1 : 1 ≤ n) (hcat : (S.map jcat).sum ≤ 10) (hn : pc + 3 = pc') (k : J n cd rt pc' L S σ Q) : J n cd rt pc L (jo k0 x :: S) σ Q :=
  J_pureW (S' := S) (L' := L) (pc' := pc') hf rfl h1 (fun d => by
    show (((jo k0 x :: S).map (jcv d)).map fun v => v.category).sum ≤ 20
    rw [List.map_map, show ((fun v : Value => v.category) ∘ jcv d) = jcat from funext fun v => jcv_cat d v]
    show 1 + (S.map jcat).sum ≤ 20
    omega) (fun d H Lm V F R kL kS => ⟨⟨Lm, by
      show ax_step (pc, .invokespecial idx, 3, m, 3, c) Lm (jcv d (jo k0 x) :: S.map (jcv d)) H = _
      rw [jcv_o h0, ← hn]
      rfl, R⟩, kL, jokS_tl kS⟩) k
end JQ
