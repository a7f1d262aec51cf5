/-! Rows of runs told by numbers: what doesn't touch the heap. -/
theorem i32_in {x : Int} (h : i32 x) : (Int32.ofInt x).toInt = x := Int32.toInt_ofInt_of_le (by have := h.1; omega) (by have := h.2; omega)
theorem i64_in {x : Int} (h : i64 x) : (Int64.ofInt x).toInt = x := Int64.toInt_ofInt_of_le (by have := h.1; omega) (by have := h.2; omega)
theorem i32_of (x : Int32) : i32 x.toInt := ⟨by have := Int32.le_toInt x; omega, by have := Int32.toInt_lt x; omega⟩
theorem i32_64 {x : Int} (h : i32 x) : i64 x := ⟨by have := h.1; omega, by have := h.2; omega⟩
theorem j_lt {x y : Int} (hx : i32 x) (hy : i32 y) : Int32.ofInt x < Int32.ofInt y ↔ x < y := by rw [Int32.lt_iff_toInt_lt, i32_in hx, i32_in hy]
theorem j_le {x y : Int} (hx : i32 x) (hy : i32 y) : Int32.ofInt x ≤ Int32.ofInt y ↔ x ≤ y := by rw [Int32.le_iff_toInt_le, i32_in hx, i32_in hy]
theorem j_eq {x y : Int} (hx : i32 x) (hy : i32 y) : Int32.ofInt x = Int32.ofInt y ↔ x = y := by
  rw [← Int32.toInt_inj, i32_in hx, i32_in hy]
theorem j_clamp {x : Int} (h : i32 x) : (Int32.ofInt x).toNatClampNeg = x.toNat := by rw [← Int32.toNat_toInt, i32_in h]
theorem i32_0 : i32 0 := ⟨by decide, by decide⟩
theorem j_neg {x : Int} (hx : i32 x) : Int32.ofInt x < 0 ↔ x < 0 := j_lt hx i32_0
theorem j_ix {i n : Int} (hi : i32 i) (h0 : 0 ≤ i) (hn : i < n) : ax_ix (Int32.ofInt i) n.toNat = true := by
  unfold ax_ix
  rw [Bool.and_eq_true, decide_eq_true_eq, decide_eq_true_eq, j_neg hi, j_clamp hi]
  exact ⟨by omega, by omega⟩
def bAnd (x y : Int) : Int := (Int32.ofInt x &&& Int32.ofInt y).toInt
def bOr (x y : Int) : Int := (Int32.ofInt x ||| Int32.ofInt y).toInt
def bXor (x y : Int) : Int := (Int32.ofInt x ^^^ Int32.ofInt y).toInt
def bShl (x y : Int) : Int := (Int32.ofInt x <<< (Int32.ofInt y &&& 31)).toInt
def bShr (x y : Int) : Int := (Int32.ofInt x >>> (Int32.ofInt y &&& 31)).toInt
def bUsh (x y : Int) : Int := (((Int32.ofInt x).toUInt32 >>> ((Int32.ofInt y).toUInt32 &&& Int32.toUInt32 31)).toInt32).toInt
def bI8 (x : Int) : Int := ((Int32.ofInt x).toInt8.toInt32).toInt
def lcm3 (x y : Int) : Int := if x < y then -1 else if x = y then 0 else 1
theorem bAnd_of (x y : Int) : Int32.ofInt (bAnd x y) = Int32.ofInt x &&& Int32.ofInt y := Int32.ofInt_toInt _
theorem bOr_of (x y : Int) : Int32.ofInt (bOr x y) = Int32.ofInt x ||| Int32.ofInt y := Int32.ofInt_toInt _
theorem bXor_of (x y : Int) : Int32.ofInt (bXor x y) = Int32.ofInt x ^^^ Int32.ofInt y := Int32.ofInt_toInt _
theorem bShl_of (x y : Int) : Int32.ofInt (bShl x y) = Int32.ofInt x <<< (Int32.ofInt y &&& 31) := Int32.ofInt_toInt _
theorem bShr_of (x y : Int) : Int32.ofInt (bShr x y) = Int32.ofInt x >>> (Int32.ofInt y &&& 31) := Int32.ofInt_toInt _
theorem bUsh_of (x y : Int) : Int32.ofInt (bUsh x y) = ((Int32.ofInt x).toUInt32 >>> ((Int32.ofInt y).toUInt32 &&& Int32.toUInt32 31)).toInt32 := Int32.ofInt_toInt _
theorem i32_s {x : Int} {lo hi : Int} (h0 : lo ≤ x) (h1 : x ≤ hi) (g0 : -2147483648 ≤ lo) (g1 : hi < 2147483648) : i32 x := ⟨by omega, by omega⟩
theorem jcut_len (L : List (Option jV)) (i : Nat) : (jcut L i).length = L.length := by
  unfold jcut
  split
  · rfl
  · split <;> simp
theorem jput_at {d : jD} {L : List (Option jV)} {Lm : ax_L} {i : Nat} {v : jV} (hi : i < L.length) (h : jrel d L Lm) : jrel d (jput L i v) (ax_put Lm i (jcv d v)) := by
  refine ⟨?_, ?_⟩
  · rw [ax_put_len, h.1]
    unfold jput
    split <;> simp [jcut_len]
  intro k u hk
  by_cases e : k = i
  · subst e
    have hl : k < Lm.length := by rw [h.1]; exact hi
    rw [ax_put_self hl]
    have : (jput L k v)[k]? = some (some v) := by
      have key : ((jcut L k).set k (some v))[k]? = some (some v) := by rw [List.getElem?_set_self (by rw [jcut_len]; exact hi)]
      unfold jput
      split
      · rw [List.getElem?_set_ne (by omega)]; exact key
      · exact key
    rw [this] at hk
    cases hk
    rfl
  · have hL : (jcut L i)[k]? = some (some u) ∧ ¬ (jcat v = 2 ∧ k = i + 1) := by
      unfold jput at hk
      split at hk
      · rename_i x
        have h0 : ¬ k = i + 1 := by
          rintro rfl
          rw [List.getElem?_set] at hk
          simp only [if_true] at hk
          split at hk <;> simp at hk
        rw [List.getElem?_set_ne (fun q => h0 q.symm), List.getElem?_set_ne (fun q => e q.symm)] at hk
        exact ⟨hk, fun q => h0 q.2⟩
      · rename_i hv
        rw [List.getElem?_set_ne (fun q => e q.symm)] at hk
        refine ⟨hk, fun q => ?_⟩
        rcases v with x | x | ⟨c, x⟩ | ⟨F, o⟩
        · exact absurd (show (1 : Nat) = 2 from q.1) (by decide)
        · exact hv x rfl
        · exact absurd (show (1 : Nat) = 2 from q.1) (by decide)
        · exact absurd (show (1 : Nat) = 2 from q.1) (by decide)
    obtain ⟨hk1, hk2⟩ := hL
    have h2 : L[k]? = some (some u) ∧ ¬ (k + 1 = i ∧ jcat u = 2) := by
      cases i with
      | zero => exact ⟨hk1, fun q => by omega⟩
      | succ j =>
        unfold jcut at hk1
        dsimp only at hk1
        by_cases hjk : k = j
        · subst hjk
          split at hk1
          · rw [List.getElem?_set] at hk1
            simp only [if_true] at hk1
            split at hk1 <;> simp at hk1
          · rename_i hn
            refine ⟨hk1, fun q => ?_⟩
            rcases u with x | x | ⟨c, x⟩ | ⟨F, o⟩
            · exact absurd (show (1 : Nat) = 2 from q.2) (by decide)
            · exact hn x hk1
            · exact absurd (show (1 : Nat) = 2 from q.2) (by decide)
            · exact absurd (show (1 : Nat) = 2 from q.2) (by decide)
        · have h2 : L[k]? = some (some u) := by
            split at hk1
            · rw [List.getElem?_set_ne (fun q => hjk q.symm)] at hk1; exact hk1
            · exact hk1
          exact ⟨h2, fun q => by omega⟩
    obtain ⟨h3, h4⟩ := h2
    have hm := h.2 k u h3
    have hcat1 : (jcv d v).category = 2 ↔ jcat v = 2 := by rw [jcv_cat]
    have hm1 : (match i with
        | 0 => Lm
        | j + 1 => match Lm[j]? with
          | some (some w) => if w.category = 2 then Lm.set j none else Lm
          | _ => Lm)[k]? = some (some (jcv d u)) := by
      cases i with
      | zero => exact hm
      | succ j =>
        dsimp only
        split
        · rename_i w hw
          split
          · rename_i hc
            by_cases hjk : j = k
            · subst hjk
              rw [hm] at hw
              cases hw
              rw [jcv_cat] at hc
              exact absurd ⟨rfl, hc⟩ h4
            · rw [List.getElem?_set_ne hjk]; exact hm
          · exact hm
        · exact hm
    unfold ax_put
    dsimp only
    split
    · rename_i hc
      rw [List.getElem?_set_ne (fun q => hk2 ⟨hcat1.mp hc, q.symm⟩), List.getElem?_set_ne (fun q => e q.symm)]
      exact hm1
    · rw [List.getElem?_set_ne (fun q => e q.symm)]
      exact hm1
theorem jput_mem {L : List (Option jV)} {i : Nat} {v u : jV} (h : some u ∈ jput L i v) : u = v ∨ some u ∈ L := by
  have set_mem : ∀ (L : List (Option jV)) (k : Nat) (w : Option jV), some u ∈ L.set k w → some u = w ∨ some u ∈ L := fun L k w hh => (List.mem_or_eq_of_mem_set hh).symm
  have h2 : some u ∈ jcut L i → some u ∈ L := by
    intro hh
    unfold jcut at hh
    split at hh
    · exact hh
    · split at hh
      · exact (set_mem _ _ _ hh).elim (fun e => by cases e) id
      · exact hh
  have h1 : some u ∈ (jcut L i).set i (some v) → u = v ∨ some u ∈ L := fun hh => (set_mem _ i (some v) hh).imp (fun e => by cases e; rfl) h2
  unfold jput at h
  split at h
  · rcases set_mem _ _ _ h with e | e
    · cases e
    · exact h1 e
  · exact h1 h
theorem jokL_put {σ : jS} {L : List (Option jV)} {i : Nat} {v : jV} (hL : jokL σ L) (hv : jok σ v) : jokL σ (jput L i v) := fun u hu => by
  rcases jput_mem hu with e | e
  · subst e; exact hv
  · exact hL u e
section JP
variable {n : Nat} {cd : List ax_En} {rt : Option FieldType} {pc pc' : Nat} {L L' : List (Option jV)} {S S' : List jV} {σ : jS} {Q : Option jV → jS → Prop} {a b c : Nat} {x y : Int}
/-- a step that leaves heap and frame -/
theorem J_stk {e : ax_En} (hf : ax_fd cd pc = some e) (hc : ax_ctl e = 2) (hs : ∀ d H Lm, jVw d σ H → jWF σ → jrel d L Lm → jokL σ L → jokS σ S → ax_step e Lm (S.map (jcv d)) H = some (pc', Lm, S'.map (jcv d), H) ∧ jokS σ S') (k : J n cd rt pc' L S' σ Q) : J n cd rt pc L S σ Q :=
  J_pure hf hc (fun d H Lm V F R kL kS => ⟨⟨Lm, (hs d H Lm V F R kL kS).1, R⟩, kL, (hs d H Lm V F R kL kS).2⟩) k
theorem J_iconst {i : Int} (hf : ax_fd cd pc = some (pc, .iconst i, 1, a, b, c)) (hi : i32 i) (hn : pc + 1 = pc') (k : J n cd rt pc' L (ji i :: S) σ Q) : J n cd rt pc L S σ Q :=
  J_stk (S' := ji i :: S) hf rfl (fun d H Lm V F R kL kS => ⟨by rw [← hn]; rfl, jokS_cs kS hi⟩) k
theorem J_bipush {i : Int} (hf : ax_fd cd pc = some (pc, .bipush i, 2, a, b, c)) (h1 : -128 ≤ i) (h2 : i < 128) (hn : pc + 2 = pc') (k : J n cd rt pc' L (ji i :: S) σ Q) : J n cd rt pc L S σ Q :=
  J_stk (S' := ji i :: S) hf rfl (fun d H Lm V F R kL kS => ⟨by
    show some (pc + 2, Lm, Value.int (Int8.ofInt i).toInt32 :: S.map (jcv d), H) = _
    rw [← hn, show (Int8.ofInt i).toInt32 = Int32.ofInt i by rw [← Int32.toInt_inj, Int8.toInt_toInt32, Int8.toInt_ofInt_of_le (by omega) (by omega), i32_in ⟨by omega, by omega⟩]]; rfl, jokS_cs kS (show i32 i from ⟨by omega, by omega⟩)⟩) k
theorem J_sipush {i : Int} (hf : ax_fd cd pc = some (pc, .sipush i, 3, a, b, c)) (h1 : -32768 ≤ i) (h2 : i < 32768) (hn : pc + 3 = pc') (k : J n cd rt pc' L (ji i :: S) σ Q) : J n cd rt pc L S σ Q :=
  J_stk (S' := ji i :: S) hf rfl (fun d H Lm V F R kL kS => ⟨by
    show some (pc + 3, Lm, Value.int (Int16.ofInt i).toInt32 :: S.map (jcv d), H) = _
    rw [← hn, show (Int16.ofInt i).toInt32 = Int32.ofInt i by rw [← Int32.toInt_inj, Int16.toInt_toInt32, Int16.toInt_ofInt_of_le (by omega) (by omega), i32_in ⟨by omega, by omega⟩]]; rfl, jokS_cs kS (show i32 i from ⟨by omega, by omega⟩)⟩) k
theorem J_ldc {i : Nat} {m len : Nat} {ins : Instr} (hins : ins = .ldc i ∨ ins = .ldc_w i) (hf : ax_fd cd pc = some (pc, ins, len, m, b, c)) (hi : i32 (m : Int)) (hn : pc + len = pc') (k : J n cd rt pc' L (ji (m : Int) :: S) σ Q) : J n cd rt pc L S σ Q := by
  refine J_stk (S' := ji (m : Int) :: S) (pc' := pc') hf (by rcases hins with rfl | rfl <;> rfl) (fun d H Lm V F R kL kS => ⟨?_, jokS_cs kS hi⟩) k
  subst hn
  rcases hins with rfl | rfl
  all_goals
    show some (pc + len, Lm, Value.int (Int32.ofNat m) :: S.map (jcv d), H) = some (pc + len, Lm, Value.int (Int32.ofInt (m : Int)) :: S.map (jcv d), H)
    rw [Int32.ofInt_eq_ofNat]
theorem J_ldc2 {i : Nat} {m : Nat} (hf : ax_fd cd pc = some (pc, .ldc2_w i, 3, m, b, c)) (hi : i64 (m : Int)) (hn : pc + 3 = pc') (k : J n cd rt pc' L (jl (m : Int) :: S) σ Q) : J n cd rt pc L S σ Q :=
  J_stk (S' := jl (m : Int) :: S) hf rfl (fun d H Lm V F R kL kS => ⟨by
    show some (pc + 3, Lm, Value.long (Int64.ofNat m) :: S.map (jcv d), H) = some (pc', Lm, Value.long (Int64.ofInt (m : Int)) :: S.map (jcv d), H)
    rw [← hn, Int64.ofInt_eq_ofNat], jokS_cs kS hi⟩) k
theorem J_lconst {i : Fin 2} {m : Int} (hf : ax_fd cd pc = some (pc, .lconst i, 1, a, b, c)) (hm : (i.val : Int) = m) (hi : i64 m) (hn : pc + 1 = pc') (k : J n cd rt pc' L (jl m :: S) σ Q) : J n cd rt pc L S σ Q :=
  J_stk (S' := jl m :: S) hf rfl (fun d H Lm V F R kL kS => ⟨by
    show some (pc + 1, Lm, Value.long (Int64.ofNat i.val) :: S.map (jcv d), H) = some (pc', Lm, Value.long (Int64.ofInt m) :: S.map (jcv d), H)
    rw [← hn, ← hm, Int64.ofInt_eq_ofNat], jokS_cs kS hi⟩) k
theorem jld {d : jD} {Lm : ax_L} {i : Nat} {v : jV} (R : jrel d L Lm) (hL : L[i]? = some (some v)) (k : Value → Option (Nat × ax_L × List Value × ax_H)) : ax_ld i Lm k = k (jcv d v) := by
  unfold ax_ld
  rw [R.2 i v hL]
theorem jokL_at {i : Nat} {v : jV} (kL : jokL σ L) (hL : L[i]? = some (some v)) : jok σ v := kL v (List.mem_of_getElem? hL)
theorem J_iload {i len : Nat} (hf : ax_fd cd pc = some (pc, .iload i, len, a, b, c)) (hL : L[i]? = some (some (ji x))) (hn : pc + len = pc') (k : J n cd rt pc' L (ji x :: S) σ Q) : J n cd rt pc L S σ Q :=
  J_stk hf rfl (fun d H Lm V F R kL kS => ⟨by
    show (ax_ld i Lm fun v => match v with | .int x => some (pc + len, Lm, .int x :: S.map (jcv d), H) | _ => none) = _
    rw [jld R hL, hn]; rfl, jokS_cs kS (jokL_at kL hL)⟩) k
theorem J_iload_n {i : Fin 4} (hf : ax_fd cd pc = some (pc, .iload_n i, 1, a, b, c)) (hL : L[i.val]? = some (some (ji x))) (hn : pc + 1 = pc') (k : J n cd rt pc' L (ji x :: S) σ Q) : J n cd rt pc L S σ Q :=
  J_stk hf rfl (fun d H Lm V F R kL kS => ⟨by
    show (ax_ld i.val Lm fun v => match v with | .int x => some (pc + 1, Lm, .int x :: S.map (jcv d), H) | _ => none) = _
    rw [jld R hL, hn]; rfl, jokS_cs kS (jokL_at kL hL)⟩) k
theorem J_lload {i len : Nat} (hf : ax_fd cd pc = some (pc, .lload i, len, a, b, c)) (hL : L[i]? = some (some (jl x))) (hn : pc + len = pc') (k : J n cd rt pc' L (jl x :: S) σ Q) : J n cd rt pc L S σ Q :=
  J_stk hf rfl (fun d H Lm V F R kL kS => ⟨by
    show (ax_ld i Lm fun v => match v with | .long x => some (pc + len, Lm, .long x :: S.map (jcv d), H) | _ => none) = _
    rw [jld R hL, hn]; rfl, jokS_cs kS (jokL_at kL hL)⟩) k
theorem J_lload_n {i : Fin 4} (hf : ax_fd cd pc = some (pc, .lload_n i, 1, a, b, c)) (hL : L[i.val]? = some (some (jl x))) (hn : pc + 1 = pc') (k : J n cd rt pc' L (jl x :: S) σ Q) : J n cd rt pc L S σ Q :=
  J_stk hf rfl (fun d H Lm V F R kL kS => ⟨by
    show (ax_ld i.val Lm fun v => match v with | .long x => some (pc + 1, Lm, .long x :: S.map (jcv d), H) | _ => none) = _
    rw [jld R hL, hn]; rfl, jokS_cs kS (jokL_at kL hL)⟩) k
theorem J_aload_s {e : ax_En} {i : Nat} {v : jV} (hf : ax_fd cd pc = some e) (hc : ax_ctl e = 2) (hst : ∀ Lm S H, ax_step e Lm S H = ax_ld i Lm fun v => match v with | .ref x => some (pc', Lm, .ref x :: S, H) | _ => none) (hL : L[i]? = some (some v)) (hr : ∀ d : jD, ∃ q, jcv d v = .ref q) (k : J n cd rt pc' L (v :: S) σ Q) : J n cd rt pc L S σ Q :=
  J_stk hf hc (fun d H Lm V F R kL kS => ⟨by
    obtain ⟨q, hq⟩ := hr d
    rw [hst, jld R hL, hq]
    show some (pc', Lm, Value.ref q :: S.map (jcv d), H) = some (pc', Lm, jcv d v :: S.map (jcv d), H)
    rw [hq], jokS_cs kS (jokL_at kL hL)⟩) k
theorem jcv_o {d : jD} {k : Nat} (h0 : 0 ≤ x) : jcv d (jo k x) = .ref (d.1 k x) := by
  show (if x < 0 then Value.null else _) = _
  rw [if_neg (by omega)]
theorem J_aload_o {i len k0 : Nat} (hf : ax_fd cd pc = some (pc, .aload i, len, a, b, c)) (hL : L[i]? = some (some (jo k0 x))) (h0 : 0 ≤ x) (hn : pc + len = pc') (k : J n cd rt pc' L (jo k0 x :: S) σ Q) : J n cd rt pc L S σ Q :=
  J_aload_s (pc' := pc') hf rfl (fun _ _ _ => by rw [← hn]; rfl) hL (fun d => ⟨_, jcv_o h0⟩) k
theorem J_aload_no {i : Fin 4} {k0 : Nat} (hf : ax_fd cd pc = some (pc, .aload_n i, 1, a, b, c)) (hL : L[i.val]? = some (some (jo k0 x))) (h0 : 0 ≤ x) (hn : pc + 1 = pc') (k : J n cd rt pc' L (jo k0 x :: S) σ Q) : J n cd rt pc L S σ Q :=
  J_aload_s (pc' := pc') hf rfl (fun _ _ _ => by rw [← hn]; rfl) hL (fun d => ⟨_, jcv_o h0⟩) k
theorem J_aload_a {i len G : Nat} {o : Int} (hf : ax_fd cd pc = some (pc, .aload i, len, a, b, c)) (hL : L[i]? = some (some (ja G o))) (hn : pc + len = pc') (k : J n cd rt pc' L (ja G o :: S) σ Q) : J n cd rt pc L S σ Q :=
  J_aload_s (pc' := pc') hf rfl (fun _ _ _ => by rw [← hn]; rfl) hL (fun d => ⟨_, rfl⟩) k
theorem J_aload_na {i : Fin 4} {G : Nat} {o : Int} (hf : ax_fd cd pc = some (pc, .aload_n i, 1, a, b, c)) (hL : L[i.val]? = some (some (ja G o))) (hn : pc + 1 = pc') (k : J n cd rt pc' L (ja G o :: S) σ Q) : J n cd rt pc L S σ Q :=
  J_aload_s (pc' := pc') hf rfl (fun _ _ _ => by rw [← hn]; rfl) hL (fun d => ⟨_, rfl⟩) k
theorem J_store {e : ax_En} {i : Nat} {v : jV} (hf : ax_fd cd pc = some e) (hc : ax_ctl e = 2) (hst : ∀ d Lm S H, i < Lm.length → ax_step e Lm (jcv d v :: S) H = some (pc', ax_put Lm i (jcv d v), S, H)) (hi : i < L.length) (hL : jput L i v = L') (k : J n cd rt pc' L' S σ Q) : J n cd rt pc L (v :: S) σ Q :=
  J_pure hf hc (fun d H Lm V F R kL kS => ⟨⟨_, hst d Lm _ H (by rw [R.1]; exact hi), by rw [← hL]; exact jput_at hi R⟩, by rw [← hL]; exact jokL_put kL (jokS_hd kS), jokS_tl kS⟩) k
theorem J_istore {i len : Nat} (hf : ax_fd cd pc = some (pc, .istore i, len, a, b, c)) (hi : i < L.length) (hL : jput L i (ji x) = L') (hn : pc + len = pc') (k : J n cd rt pc' L' S σ Q) : J n cd rt pc L (ji x :: S) σ Q :=
  J_store hf rfl (fun d Lm S H h => by
    show (if i < Lm.length then some (pc + len, ax_put Lm i (.int (Int32.ofInt x)), S, H) else none) = _
    rw [if_pos h, hn]; rfl) hi hL k
theorem J_istore_n {i : Fin 4} (hf : ax_fd cd pc = some (pc, .istore_n i, 1, a, b, c)) (hi : i.val < L.length) (hL : jput L i.val (ji x) = L') (hn : pc + 1 = pc') (k : J n cd rt pc' L' S σ Q) : J n cd rt pc L (ji x :: S) σ Q :=
  J_store hf rfl (fun d Lm S H h => by
    show (if i.val < Lm.length then some (pc + 1, ax_put Lm i.val (.int (Int32.ofInt x)), S, H) else none) = _
    rw [if_pos h, hn]; rfl) hi hL k
theorem J_lstore_s {e : ax_En} {i : Nat} {v : jV} (hf : ax_fd cd pc = some e) (hc : ax_ctl e = 2) (hst : ∀ d Lm S H, i + 1 < Lm.length → ax_step e Lm (jcv d v :: S) H = some (pc', ax_put Lm i (jcv d v), S, H)) (hi : i + 1 < L.length) (hL : jput L i v = L') (k : J n cd rt pc' L' S σ Q) : J n cd rt pc L (v :: S) σ Q :=
  J_pure hf hc (fun d H Lm V F R kL kS => ⟨⟨_, hst d Lm _ H (by rw [R.1]; exact hi), by rw [← hL]; exact jput_at (by omega) R⟩, by rw [← hL]; exact jokL_put kL (jokS_hd kS), jokS_tl kS⟩) k
theorem J_lstore {i len : Nat} (hf : ax_fd cd pc = some (pc, .lstore i, len, a, b, c)) (hi : i + 1 < L.length) (hL : jput L i (jl x) = L') (hn : pc + len = pc') (k : J n cd rt pc' L' S σ Q) : J n cd rt pc L (jl x :: S) σ Q :=
  J_lstore_s hf rfl (fun d Lm S H h => by
    show (if i + 1 < Lm.length then some (pc + len, ax_put Lm i (.long (Int64.ofInt x)), S, H) else none) = _
    rw [if_pos h, hn]; rfl) hi hL k
theorem J_lstore_n {i : Fin 4} (hf : ax_fd cd pc = some (pc, .lstore_n i, 1, a, b, c)) (hi : i.val + 1 < L.length) (hL : jput L i.val (jl x) = L') (hn : pc + 1 = pc') (k : J n cd rt pc' L' S σ Q) : J n cd rt pc L (jl x :: S) σ Q :=
  J_lstore_s hf rfl (fun d Lm S H h => by
    show (if i.val + 1 < Lm.length then some (pc + 1, ax_put Lm i.val (.long (Int64.ofInt x)), S, H) else none) = _
    rw [if_pos h, hn]; rfl) hi hL k
theorem J_astore_o {i len k0 : Nat} (hf : ax_fd cd pc = some (pc, .astore i, len, a, b, c)) (h0 : 0 ≤ x) (hi : i < L.length) (hL : jput L i (jo k0 x) = L') (hn : pc + len = pc') (k : J n cd rt pc' L' S σ Q) : J n cd rt pc L (jo k0 x :: S) σ Q :=
  J_store hf rfl (fun d Lm S H h => by
    rw [jcv_o h0]
    show (if i < Lm.length then some (pc + len, ax_put Lm i (.ref (d.1 k0 x)), S, H) else none) = _
    rw [if_pos h, hn]) hi hL k
theorem J_astore_no {i : Fin 4} {k0 : Nat} (hf : ax_fd cd pc = some (pc, .astore_n i, 1, a, b, c)) (h0 : 0 ≤ x) (hi : i.val < L.length) (hL : jput L i.val (jo k0 x) = L') (hn : pc + 1 = pc') (k : J n cd rt pc' L' S σ Q) : J n cd rt pc L (jo k0 x :: S) σ Q :=
  J_store hf rfl (fun d Lm S H h => by
    rw [jcv_o h0]
    show (if i.val < Lm.length then some (pc + 1, ax_put Lm i.val (.ref (d.1 k0 x)), S, H) else none) = _
    rw [if_pos h, hn]) hi hL k
theorem J_astore_a {i len G : Nat} {o : Int} (hf : ax_fd cd pc = some (pc, .astore i, len, a, b, c)) (hi : i < L.length) (hL : jput L i (ja G o) = L') (hn : pc + len = pc') (k : J n cd rt pc' L' S σ Q) : J n cd rt pc L (ja G o :: S) σ Q :=
  J_store hf rfl (fun d Lm S H h => by
    show (if i < Lm.length then some (pc + len, ax_put Lm i (.ref (d.2 G o)), S, H) else none) = _
    rw [if_pos h, hn]; rfl) hi hL k
theorem J_astore_na {i : Fin 4} {G : Nat} {o : Int} (hf : ax_fd cd pc = some (pc, .astore_n i, 1, a, b, c)) (hi : i.val < L.length) (hL : jput L i.val (ja G o) = L') (hn : pc + 1 = pc') (k : J n cd rt pc' L' S σ Q) : J n cd rt pc L (ja G o :: S) σ Q :=
  J_store hf rfl (fun d Lm S H h => by
    show (if i.val < Lm.length then some (pc + 1, ax_put Lm i.val (.ref (d.2 G o)), S, H) else none) = _
    rw [if_pos h, hn]; rfl) hi hL k
theorem J_iinc {i len : Nat} {m : Int} (hf : ax_fd cd pc = some (pc, .iinc i m, len, a, b, c)) (hx : L[i]? = some (some (ji x))) (hr : i32 (x + m)) (hL : jput L i (ji (x + m)) = L') (hn : pc + len = pc') (k : J n cd rt pc' L' S σ Q) : J n cd rt pc L S σ Q :=
  J_pure (L' := L') (S' := S) (pc' := pc') hf rfl (fun d H Lm V F R kL kS => ⟨⟨_, by
    show (ax_ld i Lm fun v => match v with | .int x => some (pc + len, ax_put Lm i (.int (x + Int32.ofInt m)), S.map (jcv d), H) | _ => none) = some (pc', ax_put Lm i (jcv d (ji (x + m))), S.map (jcv d), H)
    rw [jld R hx, hn]
    show some (pc', ax_put Lm i (.int (Int32.ofInt x + Int32.ofInt m)), S.map (jcv d), H) = _
    rw [← Int32.ofInt_add]; rfl, by rw [← hL]; exact jput_at (List.getElem?_eq_some_iff.mp hx).1 R⟩, by rw [← hL]; exact jokL_put kL hr, kS⟩) k
theorem J_two {e : ax_En} {z : Int} (hf : ax_fd cd pc = some e) (hc : ax_ctl e = 2) (hst : i32 x → i32 y → ∀ Lm S H, ax_step e Lm (.int (Int32.ofInt y) :: .int (Int32.ofInt x) :: S) H = some (pc', Lm, .int (Int32.ofInt z) :: S, H)) (hz : i32 x → i32 y → i32 z) (k : J n cd rt pc' L (ji z :: S) σ Q) : J n cd rt pc L (ji y :: ji x :: S) σ Q :=
  J_stk (S' := ji z :: S) hf hc (fun d H Lm V F R kL kS => ⟨hst (jokS_hd (jokS_tl kS)) (jokS_hd kS) Lm _ H, jokS_cs (jokS_tl (jokS_tl kS)) (hz (jokS_hd (jokS_tl kS)) (jokS_hd kS))⟩) k
theorem J_iadd (hf : ax_fd cd pc = some (pc, .iadd, 1, a, b, c)) (hr : i32 (x + y)) (hn : pc + 1 = pc') (k : J n cd rt pc' L (ji (x + y) :: S) σ Q) : J n cd rt pc L (ji y :: ji x :: S) σ Q :=
  J_two hf rfl (fun _ _ Lm S H => by rw [Int32.ofInt_add, ← hn]; rfl) (fun _ _ => hr) k
theorem J_isub (hf : ax_fd cd pc = some (pc, .isub, 1, a, b, c)) (hr : i32 (x - y)) (hn : pc + 1 = pc') (k : J n cd rt pc' L (ji (x - y) :: S) σ Q) : J n cd rt pc L (ji y :: ji x :: S) σ Q :=
  J_two hf rfl (fun _ _ Lm S H => by rw [Int32.ofInt_sub, ← hn]; rfl) (fun _ _ => hr) k
theorem J_imul (hf : ax_fd cd pc = some (pc, .imul, 1, a, b, c)) (hr : i32 (x * y)) (hn : pc + 1 = pc') (k : J n cd rt pc' L (ji (x * y) :: S) σ Q) : J n cd rt pc L (ji y :: ji x :: S) σ Q :=
  J_two hf rfl (fun _ _ Lm S H => by rw [Int32.ofInt_mul, ← hn]; rfl) (fun _ _ => hr) k
theorem J_iand (hf : ax_fd cd pc = some (pc, .iand, 1, a, b, c)) (hn : pc + 1 = pc') (k : J n cd rt pc' L (ji (bAnd x y) :: S) σ Q) : J n cd rt pc L (ji y :: ji x :: S) σ Q :=
  J_two (z := bAnd x y) hf rfl (fun _ _ Lm S H => by rw [bAnd_of, ← hn]; rfl) (fun _ _ => i32_of _) k
theorem J_ior (hf : ax_fd cd pc = some (pc, .ior, 1, a, b, c)) (hn : pc + 1 = pc') (k : J n cd rt pc' L (ji (bOr x y) :: S) σ Q) : J n cd rt pc L (ji y :: ji x :: S) σ Q :=
  J_two (z := bOr x y) hf rfl (fun _ _ Lm S H => by rw [bOr_of, ← hn]; rfl) (fun _ _ => i32_of _) k
theorem J_ixor (hf : ax_fd cd pc = some (pc, .ixor, 1, a, b, c)) (hn : pc + 1 = pc') (k : J n cd rt pc' L (ji (bXor x y) :: S) σ Q) : J n cd rt pc L (ji y :: ji x :: S) σ Q :=
  J_two (z := bXor x y) hf rfl (fun _ _ Lm S H => by rw [bXor_of, ← hn]; rfl) (fun _ _ => i32_of _) k
theorem J_ishl (hf : ax_fd cd pc = some (pc, .ishl, 1, a, b, c)) (hn : pc + 1 = pc') (k : J n cd rt pc' L (ji (bShl x y) :: S) σ Q) : J n cd rt pc L (ji y :: ji x :: S) σ Q :=
  J_two (z := bShl x y) hf rfl (fun _ _ Lm S H => by rw [bShl_of, ← hn]; rfl) (fun _ _ => i32_of _) k
theorem J_ishr (hf : ax_fd cd pc = some (pc, .ishr, 1, a, b, c)) (hn : pc + 1 = pc') (k : J n cd rt pc' L (ji (bShr x y) :: S) σ Q) : J n cd rt pc L (ji y :: ji x :: S) σ Q :=
  J_two (z := bShr x y) hf rfl (fun _ _ Lm S H => by rw [bShr_of, ← hn]; rfl) (fun _ _ => i32_of _) k
theorem J_iushr (hf : ax_fd cd pc = some (pc, .iushr, 1, a, b, c)) (hn : pc + 1 = pc') (k : J n cd rt pc' L (ji (bUsh x y) :: S) σ Q) : J n cd rt pc L (ji y :: ji x :: S) σ Q :=
  J_two (z := bUsh x y) hf rfl (fun _ _ Lm S H => by rw [bUsh_of, ← hn]; rfl) (fun _ _ => i32_of _) k
theorem j_div {x y : Int} (hx : i32 x) (hy : i32 y) (h0 : 0 ≤ x) (h1 : 0 < y) : Int32.ofInt x / Int32.ofInt y = Int32.ofInt (x / y) := by
  obtain ⟨m, rfl⟩ := Int.eq_ofNat_of_zero_le h0
  obtain ⟨k, rfl⟩ := Int.eq_ofNat_of_zero_le (show 0 ≤ y by omega)
  have hm := hx.2
  have hk := hy.2
  rw [Int32.ofInt_eq_ofNat, Int32.ofInt_eq_ofNat, ← Int32.ofNat_div (by omega) (by omega), ← Int.natCast_ediv, Int32.ofInt_eq_ofNat]
theorem j_divz {y : Int} (hy : i32 y) (h1 : 0 < y) : ¬ Int32.ofInt y = 0 := fun h => by
  have h2 : Int32.ofInt y = Int32.ofInt 0 := h
  rw [j_eq hy i32_0] at h2
  omega
theorem J_idiv (hf : ax_fd cd pc = some (pc, .idiv, 1, a, b, c)) (h0 : 0 ≤ x) (h1 : 0 < y) (hn : pc + 1 = pc') (k : J n cd rt pc' L (ji (x / y) :: S) σ Q) : J n cd rt pc L (ji y :: ji x :: S) σ Q :=
  J_two hf rfl (fun hx hy Lm S H => by
    show (if Int32.ofInt y = 0 then none else some (pc + 1, Lm, Value.int (Int32.ofInt x / Int32.ofInt y) :: S, H)) = _
    rw [if_neg (j_divz hy h1), hn, j_div hx hy h0 h1]) (fun hx hy => by
      have := hx.2
      have h2 : x / y ≤ x := Int.ediv_le_self y h0
      have h3 : 0 ≤ x / y := Int.ediv_nonneg h0 (by omega)
      exact ⟨by omega, by omega⟩) k
theorem J_irem (hf : ax_fd cd pc = some (pc, .irem, 1, a, b, c)) (h0 : 0 ≤ x) (h1 : 0 < y) (hn : pc + 1 = pc') (k : J n cd rt pc' L (ji (x % y) :: S) σ Q) : J n cd rt pc L (ji y :: ji x :: S) σ Q :=
  J_two hf rfl (fun hx hy Lm S H => by
    show (if Int32.ofInt y = 0 then none else some (pc + 1, Lm, Value.int (Int32.ofInt x - Int32.ofInt x / Int32.ofInt y * Int32.ofInt y) :: S, H)) = _
    rw [if_neg (j_divz hy h1), hn, j_div hx hy h0 h1, ← Int32.ofInt_mul, ← Int32.ofInt_sub, show x - x / y * y = x % y by rw [Int.emod_def, Int.mul_comm]]) (fun hx hy => by
      have h2 : x % y < y := Int.emod_lt_of_pos x h1
      have h3 : 0 ≤ x % y := Int.emod_nonneg x (by omega)
      have := hy.2
      exact ⟨by omega, by omega⟩) k
theorem J_two_l {e : ax_En} {z : Int} (hf : ax_fd cd pc = some e) (hc : ax_ctl e = 2) (hst : i64 x → i64 y → ∀ Lm S H, ax_step e Lm (.long (Int64.ofInt y) :: .long (Int64.ofInt x) :: S) H = some (pc', Lm, .long (Int64.ofInt z) :: S, H)) (hz : i64 z) (k : J n cd rt pc' L (jl z :: S) σ Q) : J n cd rt pc L (jl y :: jl x :: S) σ Q :=
  J_stk (S' := jl z :: S) hf hc (fun d H Lm V F R kL kS => ⟨hst (jokS_hd (jokS_tl kS)) (jokS_hd kS) Lm _ H, jokS_cs (jokS_tl (jokS_tl kS)) hz⟩) k
theorem J_ladd (hf : ax_fd cd pc = some (pc, .ladd, 1, a, b, c)) (hr : i64 (x + y)) (hn : pc + 1 = pc') (k : J n cd rt pc' L (jl (x + y) :: S) σ Q) : J n cd rt pc L (jl y :: jl x :: S) σ Q :=
  J_two_l hf rfl (fun _ _ Lm S H => by rw [Int64.ofInt_add, ← hn]; rfl) hr k
theorem J_lmul (hf : ax_fd cd pc = some (pc, .lmul, 1, a, b, c)) (hr : i64 (x * y)) (hn : pc + 1 = pc') (k : J n cd rt pc' L (jl (x * y) :: S) σ Q) : J n cd rt pc L (jl y :: jl x :: S) σ Q :=
  J_two_l hf rfl (fun _ _ Lm S H => by rw [Int64.ofInt_mul, ← hn]; rfl) hr k
theorem j_llt {x y : Int} (hx : i64 x) (hy : i64 y) : Int64.ofInt x < Int64.ofInt y ↔ x < y := by rw [Int64.lt_iff_toInt_lt, i64_in hx, i64_in hy]
theorem j_leq {x y : Int} (hx : i64 x) (hy : i64 y) : Int64.ofInt x = Int64.ofInt y ↔ x = y := by
  rw [← Int64.toInt_inj, i64_in hx, i64_in hy]
end JP
