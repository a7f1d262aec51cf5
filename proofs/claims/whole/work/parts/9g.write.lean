/-! What is written: octets, signs, ends. -/
def nmW (v : Int) : List Int := if v ≤ 9 then [48 + v % 10] else [48 + v / 10, 48 + v % 10]
def sgW (t : Int) : List Int := if 0 ≤ t then [65 + t / 4] else (97 + (-1 - t) % 26) :: (if -1 - t < 26 then [] else nmW ((-1 - t) / 26))
def clW : List Int → List Int × List Int
  | [] => ([], [])
  | s :: st => if s - 1 ≤ 0 then (41 :: (clW st).1, (clW st).2) else ([44], (s - 1) :: st)
def wrW : List Int → List Int → List Int
  | [], _ => []
  | t :: r, st => if pN t = 0 then sgW t ++ ((clW st).1 ++ wrW r (clW st).2) else sgW t ++ (40 :: wrW r (((pN t : Nat) : Int) :: st))
theorem nmW_len (v : Int) : (nmW v).length ≤ 2 := by unfold nmW; split <;> simp
theorem sgW_len (t : Int) : (sgW t).length ≤ 3 := by
  unfold sgW
  split
  · simp
  · rw [List.length_cons]
    split
    · simp
    · have := nmW_len ((-1 - t) / 26)
      omega
theorem clW_len : ∀ st : List Int, (clW st).1.length + (clW st).2.length ≤ st.length + 1 ∧ (clW st).2.length ≤ st.length := by
  intro st
  induction st with
  | nil => show 0 + 0 ≤ 0 + 1 ∧ 0 ≤ 0; omega
  | cons s st ih =>
    unfold clW
    by_cases q : s - 1 ≤ 0
    · rw [if_pos q]
      show (clW st).1.length + 1 + (clW st).2.length ≤ st.length + 1 + 1 ∧ (clW st).2.length ≤ st.length + 1
      omega
    · rw [if_neg q]
      show 1 + (st.length + 1) ≤ st.length + 1 + 1 ∧ st.length + 1 ≤ st.length + 1
      omega
theorem wrW_len : ∀ (r st : List Int), (wrW r st).length ≤ 5 * r.length + st.length := by
  intro r
  induction r with
  | nil => intro st; show 0 ≤ _; omega
  | cons t r ih =>
    intro st
    have h1 := sgW_len t
    have h2 := clW_len st
    unfold wrW
    split
    · have := ih (clW st).2
      rw [List.length_append, List.length_append, List.length_cons]
      omega
    · have := ih (((pN t : Nat) : Int) :: st)
      rw [List.length_append, List.length_cons, List.length_cons]
      rw [List.length_cons] at this
      omega
theorem i8_id : ∀ m : Nat, m < 128 → bI8 ((m : Nat) : Int) = ((m : Nat) : Int) := by decide +kernel
theorem i8_two {b : Int} (b0 : 0 ≤ b) (b1 : b < 128) : bI8 (bI8 b) = b := by
  have := i8_id b.toNat (by omega)
  rw [show ((b.toNat : Nat) : Int) = b by omega] at this
  rw [this, this]
/-- what is written so far: the class; the reference -/
def cW (σ : jS) (w : List Int) : Prop := rs σ 11000 0 = ((w.length : Nat) : Int) ∧ ∀ i : Nat, i < w.length → ra σ 11001 0 ((i : Nat) : Int) = w.getD i 0
def mW (σ : jS) (w : List Int) : Prop := rs σ 1133 0 = ((w.length : Nat) : Int) ∧ ∀ i : Nat, i < w.length → ra σ 1132 0 ((i : Nat) : Int) = w.getD i 0
def wcF : List (Nat × Int) := [(11000, 0), (11001, 0)]
def wmF : List (Nat × Int) := [(1132, 0), (1133, 0)]
section ZWr
variable {n : Nat} {σ0 σ σ1 : jS} {w st r : List Int} {b v t : Int}
theorem cW.sq {l : List (Nat × Int)} (h : cW σ w) (e : sq l σ σ1) (hl : (l.contains (11000, 0) || l.contains (11001, 0)) = false) : cW σ1 w := by
  rw [Bool.or_eq_false_iff] at hl
  exact ⟨by rw [e.nrs 11000 0 hl.1]; exact h.1, fun i hi => by rw [e.nra 11001 0 _ hl.2]; exact h.2 i hi⟩
theorem mW.sq {l : List (Nat × Int)} (h : mW σ w) (e : sq l σ σ1) (hl : (l.contains (1133, 0) || l.contains (1132, 0)) = false) : mW σ1 w := by
  rw [Bool.or_eq_false_iff] at hl
  exact ⟨by rw [e.nrs 1133 0 hl.1]; exact h.1, fun i hi => by rw [e.nra 1132 0 _ hl.2]; exact h.2 i hi⟩
theorem c_wadd {Q : jS → Prop} (hc : cln σ) (hw : cW σ w) (hl : w.length < 2000) (hq : ∀ σ', sq wcF σ σ' → cW σ' (w ++ [b]) → Q σ') : TrV n i_Written_add [jo 11 0, ji b] σ Q := by
  have l01 := cln_at hc 11001 0 2000 (by decide)
  obtain ⟨h1, h2⟩ := hw
  refine wp_Written_add ⟨by omega, ?_⟩
  rw [h1, if_neg (by omega), l01]
  refine ⟨by omega, by omega, by omega, fun s3 e3 => ?_⟩
  have f3 : sq [(11001, 0)] σ s3 := by rw [e3]; exact (sq.rf _ σ).pwa 11001 0 _ _ (by decide)
  have r3 : ∀ j : Int, ra s3 11001 0 j = if j = ((w.length : Nat) : Int) then b else ra σ 11001 0 j := fun j => by
    rw [e3]
    unfold wa
    rw [raf_wA, if_pos ⟨rfl, rfl⟩]
    rfl
  clear e3
  rw [f3.nrs 11000 0 (by decide), h1]
  refine ⟨⟨by omega, by omega⟩, fun s7 e7 => ?_⟩
  have f7 : sq [(11000, 0)] s3 s7 := by rw [e7]; exact (sq.rf _ s3).pws 11000 0 _ (by decide)
  refine hq s7 ((f3.mo (by decide)).tr (f7.mo (by decide))) ⟨by rw [e7, rs_ws, if_pos ⟨rfl, rfl⟩, gd_len]; omega, fun i hi => ?_⟩
  rw [gd_len] at hi
  rw [f7.nra 11001 0 _ (by decide), r3]
  by_cases q : i = w.length
  · rw [if_pos (by omega), q, gd_new]
  · rw [if_neg (by omega), gd_old (by omega)]
    exact h2 i (by omega)
theorem t_put {Q : jS → Prop} (hm : mln σ) (hw : mW σ w) (hl : w.length < 2000) (b0 : 0 ≤ b) (b1 : b < 128) (hq : ∀ σ', sq wmF σ σ' → mW σ' (w ++ [b]) → Q σ') : TrV n i_Model_put [jo 1 0, ji b] σ Q := by
  have l32 := mln_at hm 1132 2000 (by decide)
  obtain ⟨h1, h2⟩ := hw
  refine wp_Model_put ⟨by omega, ?_⟩
  rw [h1, l32, i8_two b0 b1]
  refine ⟨by omega, by omega, by omega, fun s3 e3 => ?_⟩
  have f3 : sq [(1132, 0)] σ s3 := by rw [e3]; exact (sq.rf _ σ).pwa 1132 0 _ _ (by decide)
  have r3 : ∀ j : Int, ra s3 1132 0 j = if j = ((w.length : Nat) : Int) then b else ra σ 1132 0 j := fun j => by
    rw [e3]
    unfold wa
    rw [raf_wA, if_pos ⟨rfl, rfl⟩]
    rfl
  clear e3
  rw [f3.nrs 1133 0 (by decide), h1]
  refine ⟨⟨by omega, by omega⟩, fun s7 e7 => ?_⟩
  have f7 : sq [(1133, 0)] s3 s7 := by rw [e7]; exact (sq.rf _ s3).pws 1133 0 _ (by decide)
  refine hq s7 ((f3.mo (by decide)).tr (f7.mo (by decide))) ⟨by rw [e7, rs_ws, if_pos ⟨rfl, rfl⟩, gd_len]; omega, fun i hi => ?_⟩
  rw [gd_len] at hi
  rw [f7.nra 1132 0 _ (by decide), r3]
  by_cases q : i = w.length
  · rw [if_pos (by omega), q, gd_new]
  · rw [if_neg (by omega), gd_old (by omega)]
    exact h2 i (by omega)
theorem c_wnum {Q : jS → Prop} (hn : 1 ≤ n) (hc : cln σ) (hw : cW σ w) (hl : w.length + 2 ≤ 2000) (v0 : 0 ≤ v) (v1 : v ≤ 99) (hq : ∀ σ', sq wcF σ σ' → cW σ' (w ++ nmW v) → Q σ') : TrV n i_Written_addNumber [jo 11 0, ji v] σ Q := by
  refine wp_Written_addNumber ?_
  unfold nmW at hq
  by_cases q : v < 10
  · rw [if_pos q]
    rw [if_pos (by omega)] at hq
    exact ⟨by omega, v0, ⟨by omega, by omega⟩, by omega, c_wadd hc hw (by omega) (fun s5 f5 h5 => hq s5 f5 h5)⟩
  · rw [if_neg q]
    rw [if_neg (by omega)] at hq
    refine ⟨by omega, v0, by omega, ⟨by omega, by omega⟩, by omega, c_wadd hc hw (by omega) (fun s5 f5 h5 => ⟨⟨by omega, by omega⟩, c_wadd (hc.sq f5) h5 (by rw [gd_len]; omega) (fun s6 f6 h6 => hq s6 (f5.tr f6) ?_)⟩)⟩
    rw [List.append_assoc, show v / 10 % 10 = v / 10 by omega] at h6
    exact h6
theorem t_num {Q : jS → Prop} (hn : 1 ≤ n) (hm : mln σ) (hw : mW σ w) (hl : w.length + 2 ≤ 2000) (v0 : 0 ≤ v) (v1 : v ≤ 99) (hq : ∀ σ', sq wmF σ σ' → mW σ' (w ++ nmW v) → Q σ') : TrV n i_Model_putNumber [jo 1 0, ji v] σ Q := by
  refine wp_Model_putNumber ?_
  unfold nmW at hq
  by_cases q : v ≤ 9
  · rw [if_pos q]
    rw [if_pos q] at hq
    exact ⟨by omega, v0, ⟨by omega, by omega⟩, by omega, t_put hm hw (by omega) (by omega) (by omega) (fun s5 f5 h5 => hq s5 f5 h5)⟩
  · rw [if_neg q]
    rw [if_neg q] at hq
    refine ⟨by omega, v0, ⟨by omega, by omega⟩, by omega, t_put hm hw (by omega) (by omega) (by omega) (fun s5 f5 h5 => ⟨⟨by omega, by omega⟩, t_put (hm.sq f5) h5 (by rw [gd_len]; omega) (by omega) (by omega) (fun s6 f6 h6 => hq s6 (f5.tr f6) ?_)⟩)⟩
    rw [List.append_assoc] at h6
    exact h6
theorem c_wsign {Q : jS → Prop} (hn : 2 ≤ n) (hc : cln σ) (hw : cW σ w) (hl : w.length + 3 ≤ 2000) (t0 : -2600 ≤ t) (t1 : t < 104) (hq : ∀ σ', sq wcF σ σ' → cW σ' (w ++ sgW t) → Q σ') : TrV n i_Written_addSign [jo 11 0, ji (cc t)] σ Q := by
  refine wp_Written_addSign ?_
  unfold sgW at hq
  by_cases q : 0 ≤ t
  · rw [show cc t = t from if_neg (by omega), if_neg (by omega)]
    rw [if_pos q] at hq
    exact ⟨by omega, q, ⟨by omega, by omega⟩, by omega, c_wadd hc hw (by omega) (fun s5 f5 h5 => hq s5 f5 h5)⟩
  · rw [show cc t = 103 - t from if_pos (by omega), if_pos (by omega), show 103 - t - 104 = -1 - t by omega]
    rw [if_neg q] at hq
    refine ⟨⟨by omega, by omega⟩, by omega, by omega, ⟨by omega, by omega⟩, by omega, c_wadd hc hw (by omega) (fun s5 f5 h5 => ?_)⟩
    by_cases q2 : -1 - t < 26
    · rw [if_pos q2]
      rw [if_pos q2] at hq
      exact hq s5 f5 h5
    · rw [if_neg q2]
      rw [if_neg q2] at hq
      refine c_wnum (by omega) (hc.sq f5) h5 (by rw [gd_len]; omega) (by omega) (by omega) (fun s6 f6 h6 => hq s6 (f5.tr f6) ?_)
      rw [List.append_assoc] at h6
      exact h6
/-- the ends behind a part: the class -/
theorem c_wclose {Q : Int → jS → Prop} (hn : 1 ≤ n) : ∀ (st : List Int) (w : List Int) (σ : jS), cln σ → cW σ w → stk (ra σ 11002 0) st → (∀ s, s ∈ st → 1 ≤ s ∧ s ≤ 1000) → w.length + (clW st).1.length ≤ 2000 → st.length ≤ 101 → (∀ σ', sq ((11002, 0) :: wcF) σ σ' → cW σ' (w ++ (clW st).1) → stk (ra σ' 11002 0) (clW st).2 → (∀ s, s ∈ (clW st).2 → 1 ≤ s ∧ s ≤ 1000) → Q (((clW st).2.length : Nat) : Int) σ') → J n c_Written_close (some .int) 2 [some (jo 11 0), none, some (ji ((st.length : Nat) : Int))] [] σ (qI Q) := by
  intro st
  induction st with
  | nil =>
    intro w σ hc hw hs hp hl h101 hq
    refine wp_Written_close_2 ?_
    rw [if_pos (show ((([] : List Int).length : Nat) : Int) ≤ 0 by decide)]
    exact hq σ (sq.rf _ _) (by show cW σ (w ++ []); rw [List.append_nil]; exact hw) trivial (fun s h => by cases h)
  | cons s st ih =>
    intro w σ hc hw hs hp hl h101 hq
    have l02 := cln_at hc 11002 0 101 (by decide)
    rw [List.length_cons] at h101
    obtain ⟨hs1, hs2⟩ := hs
    have hps := hp s List.mem_cons_self
    refine wp_Written_close_2 ?_
    rw [List.length_cons, if_neg (by omega), show (((st.length + 1 : Nat) : Int)) - 1 = ((st.length : Nat) : Int) by omega, hs1, l02]
    refine ⟨by omega, by omega, ⟨by omega, by omega⟩, by omega, by omega, ⟨by omega, by omega⟩, fun s7 e7 => ?_⟩
    have f7 : sq [(11002, 0)] σ s7 := by rw [e7]; exact (sq.rf _ σ).pwa 11002 0 _ _ (by decide)
    have r7 : ra s7 11002 0 = upI (ra σ 11002 0) ((st.length : Nat) : Int) (s - 1) := by
      rw [e7]
      unfold wa
      rw [raf_wA, if_pos ⟨rfl, rfl⟩]
    clear e7
    have h7 : cW s7 w := hw.sq f7 (by decide)
    have v7 : ra s7 11002 0 ((st.length : Nat) : Int) = s - 1 := by rw [r7]; unfold upI; rw [if_pos rfl]
    rw [f7.nrl 11002 0, l02, v7]
    refine ⟨by omega, by omega, ?_⟩
    unfold clW at hl hq
    by_cases q : s - 1 ≤ 0
    · rw [if_pos q]
      rw [if_pos q] at hl hq
      have hl : w.length + ((clW st).1.length + 1) ≤ 2000 := hl
      refine ⟨by omega, c_wadd (hc.sq f7) h7 (by omega) (fun s8 f8 h8 => ⟨⟨by omega, by omega⟩, ?_⟩)⟩
      rw [show (((st.length + 1 : Nat) : Int)) + (-1) = ((st.length : Nat) : Int) by omega]
      have e8 : ra s8 11002 0 = ra s7 11002 0 := f8.nraf 11002 0 (by decide)
      refine ih (w ++ [41]) s8 ((hc.sq f7).sq f8) h8 (by rw [e8, r7]; exact stk_ge (Nat.le_refl _) hs2) (fun s h => hp s (List.mem_cons_of_mem _ h)) (by rw [gd_len]; omega) (by omega) (fun σ' f' h' k' p' => hq σ' (((f7.mo (by decide)).tr (f8.mo (by decide))).tr f') ?_ k' p')
      rw [List.append_assoc] at h'
      exact h'
    · rw [if_neg q]
      rw [if_neg q] at hl hq
      have hl : w.length + 1 ≤ 2000 := hl
      refine ⟨by omega, c_wadd (hc.sq f7) h7 (by omega) (fun s8 f8 h8 => ?_)⟩
      have e8 : ra s8 11002 0 = ra s7 11002 0 := f8.nraf 11002 0 (by decide)
      exact hq s8 ((f7.mo (by decide)).tr (f8.mo (by decide))) h8 (by rw [e8, r7]; exact stk_up hs2) (fun x hx => by
        rcases List.mem_cons.mp hx with y | y
        · rw [y]; omega
        · exact hp x (List.mem_cons_of_mem _ y))
/-- the ends behind a part: the reference -/
theorem t_closeAll {Q : Int → jS → Prop} (hn : 1 ≤ n) : ∀ (st : List Int) (w : List Int) (σ : jS), mln σ → mW σ w → stk (ra σ 1134 0) st → (∀ s, s ∈ st → 1 ≤ s ∧ s ≤ 1000) → w.length + (clW st).1.length ≤ 2000 → st.length ≤ 220 → (∀ σ', sq ((1134, 0) :: wmF) σ σ' → mW σ' (w ++ (clW st).1) → stk (ra σ' 1134 0) (clW st).2 → (∀ s, s ∈ (clW st).2 → 1 ≤ s ∧ s ≤ 1000) → Q (((clW st).2.length : Nat) : Int) σ') → J n c_Model_closeAll (some .int) 2 [some (jo 1 0), none, some (ji ((st.length : Nat) : Int))] [] σ (qI Q) := by
  intro st
  induction st with
  | nil =>
    intro w σ hc hw hs hp hl h101 hq
    refine wp_Model_closeAll_2 ?_
    rw [if_pos (show ((([] : List Int).length : Nat) : Int) ≤ 0 by decide)]
    exact hq σ (sq.rf _ _) (by show mW σ (w ++ []); rw [List.append_nil]; exact hw) trivial (fun s h => by cases h)
  | cons s st ih =>
    intro w σ hc hw hs hp hl h101 hq
    have l02 := mln_at hc 1134 220 (by decide)
    rw [List.length_cons] at h101
    obtain ⟨hs1, hs2⟩ := hs
    have hps := hp s List.mem_cons_self
    refine wp_Model_closeAll_2 ?_
    rw [List.length_cons, if_neg (by omega), show (((st.length + 1 : Nat) : Int)) - 1 = ((st.length : Nat) : Int) by omega, hs1, l02]
    refine ⟨by omega, by omega, ⟨by omega, by omega⟩, by omega, by omega, ⟨by omega, by omega⟩, fun s7 e7 => ?_⟩
    have f7 : sq [(1134, 0)] σ s7 := by rw [e7]; exact (sq.rf _ σ).pwa 1134 0 _ _ (by decide)
    have r7 : ra s7 1134 0 = upI (ra σ 1134 0) ((st.length : Nat) : Int) (s - 1) := by
      rw [e7]
      unfold wa
      rw [raf_wA, if_pos ⟨rfl, rfl⟩]
    clear e7
    have h7 : mW s7 w := hw.sq f7 (by decide)
    have v7 : ra s7 1134 0 ((st.length : Nat) : Int) = s - 1 := by rw [r7]; unfold upI; rw [if_pos rfl]
    rw [f7.nrl 1134 0, l02, v7]
    refine ⟨by omega, by omega, ?_⟩
    unfold clW at hl hq
    by_cases q : s - 1 ≤ 0
    · rw [if_pos q]
      rw [if_pos q] at hl hq
      have hl : w.length + ((clW st).1.length + 1) ≤ 2000 := hl
      refine ⟨by omega, t_put (hc.sq f7) h7 (by omega) (by omega) (by omega) (fun s8 f8 h8 => ⟨⟨by omega, by omega⟩, ?_⟩)⟩
      rw [show (((st.length + 1 : Nat) : Int)) + (-1) = ((st.length : Nat) : Int) by omega]
      have e8 : ra s8 1134 0 = ra s7 1134 0 := f8.nraf 1134 0 (by decide)
      refine ih (w ++ [41]) s8 ((hc.sq f7).sq f8) h8 (by rw [e8, r7]; exact stk_ge (Nat.le_refl _) hs2) (fun s h => hp s (List.mem_cons_of_mem _ h)) (by rw [gd_len]; omega) (by omega) (fun σ' f' h' k' p' => hq σ' (((f7.mo (by decide)).tr (f8.mo (by decide))).tr f') ?_ k' p')
      rw [List.append_assoc] at h'
      exact h'
    · rw [if_neg q]
      rw [if_neg q] at hl hq
      have hl : w.length + 1 ≤ 2000 := hl
      refine ⟨by omega, t_put (hc.sq f7) h7 (by omega) (by omega) (by omega) (fun s8 f8 h8 => ?_)⟩
      have e8 : ra s8 1134 0 = ra s7 1134 0 := f8.nraf 1134 0 (by decide)
      exact hq s8 ((f7.mo (by decide)).tr (f8.mo (by decide))) h8 (by rw [e8, r7]; exact stk_up hs2) (fun x hx => by
        rcases List.mem_cons.mp hx with y | y
        · rw [y]; omega
        · exact hp x (List.mem_cons_of_mem _ y))
end ZWr
