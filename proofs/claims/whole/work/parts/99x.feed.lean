/-! The tape is fed. -/
theorem bv_i8 (x : Int) : BitVec.ofInt 32 (bI8 x) = ((BitVec.ofInt 32 x).signExtend 8).signExtend 32 := bv_of _
theorem tb_i8 {x k : Int} (k0 : 0 ≤ k) (k1 : k < 8) : tb (bI8 x) k = tb x k := by
  unfold tb
  rw [bv_i8, BitVec.getLsbD_signExtend, BitVec.getLsbD_signExtend]
  have h1 : k.toNat < 32 := by omega
  have h2 : k.toNat < 8 := by omega
  simp [h1, h2]
theorem tb_255 : ∀ m : Nat, m < 32 → tb 255 ((m : Nat) : Int) = decide (m < 8) := by decide +kernel
theorem tb_255z {k : Int} (k0 : 0 ≤ k) (k1 : k < 32) : tb 255 k = decide (k < 8) := by
  have := tb_255 k.toNat (by omega)
  rw [show ((k.toNat : Nat) : Int) = k by omega] at this
  rw [this]
  by_cases q : k < 8
  · rw [decide_eq_true q, decide_eq_true (by omega)]
  · rw [decide_eq_false q, decide_eq_false (by omega)]
/-- an octet of a number, as both take it -/
theorem oct_eq (x : Int) : ∀ k : Nat, k ≤ 24 → bAnd (bI8 (bI8 (bShr x ((k : Nat) : Int)))) 255 = bAnd (bUsh x ((k : Nat) : Int)) 255 := fun k hk => by
  refine tb_ext (i32_bAnd _ _) (i32_bAnd _ _) (fun j j0 j1 => ?_)
  rw [tb_and, tb_and, tb_255z j0 j1]
  by_cases q : j < 8
  · rw [tb_i8 j0 q, tb_i8 j0 q]
    unfold tb
    rw [bv_ush (by omega), bv_shr (by omega) (by omega), BitVec.getLsbD_sshiftRight, BitVec.getLsbD_ushiftRight]
    have h1 : ¬ 32 ≤ j.toNat := by omega
    have h2 : k + j.toNat < 32 := by omega
    have h3 : ((k : Nat) : Int).toNat = k := by omega
    rw [h3]
    simp [h1, h2]
  · rw [decide_eq_false q, Bool.and_false, Bool.and_false]
theorem oct_rng (x : Int) : 0 ≤ bAnd x 255 ∧ bAnd x 255 ≤ 255 := by
  have h1 : (BitVec.ofInt 32 x &&& BitVec.ofInt 32 255).toNat ≤ 255 := by
    rw [BitVec.toNat_and]
    exact Nat.and_le_right
  have h2 : bAnd x 255 = (BitVec.ofInt 32 x &&& BitVec.ofInt 32 255).toInt := rfl
  rw [h2, BitVec.toInt_eq_toNat_of_lt (by omega)]
  omega
def by4 (x : Int) : List Int := [bAnd (bUsh x ((24 : Nat) : Int)) 255, bAnd (bUsh x ((16 : Nat) : Int)) 255, bAnd (bUsh x ((8 : Nat) : Int)) 255, bAnd (bUsh x ((0 : Nat) : Int)) 255]
section ZFe
variable {n : Nat} {σ0 σ σ1 : jS} {D : List Int}
theorem cTp.add {b : Int} {s4 s8 : jS} (h : cTp σ D) (hb : 0 ≤ b ∧ b ≤ 255) (hl : D.length < 800) (e4 : s4 = wa σ 8002 0 ((D.length : Nat) : Int) b) (e8 : s8 = ws s4 8000 0 (((D.length : Nat) : Int) + 1)) : cTp s8 (D ++ [b]) ∧ sq [(8000, 0), (8002, 0)] σ s8 := by
  obtain ⟨h1, h2, h3, h4⟩ := h
  have f4 : sq [(8002, 0)] σ s4 := by rw [e4]; exact (sq.rf _ σ).pwa 8002 0 _ _ (by decide)
  have f8 : sq [(8000, 0)] s4 s8 := by rw [e8]; exact (sq.rf _ s4).pws 8000 0 _ (by decide)
  have r4 : ∀ j : Int, ra s4 8002 0 j = if j = ((D.length : Nat) : Int) then b else ra σ 8002 0 j := fun j => by
    rw [e4]
    unfold wa
    rw [raf_wA, if_pos ⟨rfl, rfl⟩]
    rfl
  refine ⟨⟨by rw [e8, rs_ws, if_pos ⟨rfl, rfl⟩, gd_len]; omega, by rw [gd_len]; omega, fun i hi => ?_, fun c hc => ?_⟩, (f4.mo (by decide)).tr (f8.mo (by decide))⟩
  · rw [gd_len] at hi
    rw [f8.nra 8002 0 _ (by decide), r4]
    by_cases q : i = D.length
    · rw [if_pos (by omega), q, gd_new]
    · rw [if_neg (by omega), gd_old (by omega)]
      exact h3 i (by omega)
  · rw [List.mem_append, List.mem_singleton] at hc
    rcases hc with w | w
    · exact h4 c w
    · rw [w]; exact hb
theorem c_addFour {Q : jS → Prop} {x : Int} (hm : cln σ) (hD : cTp σ D) (hl : D.length + 4 ≤ 800) (hq : ∀ σ', sq [(8000, 0), (8002, 0)] σ σ' → cTp σ' (D ++ by4 x) → Q σ') : TrV n i_Tape_addFour [jo 8 0, ji x] σ Q := by
  have step : ∀ (D2 : List Int) (s2 : jS) (k : Nat) (k' : Int), cTp s2 D2 → sq [(8000, 0), (8002, 0)] σ s2 → D2.length < 800 → k ≤ 24 → k' = ((k : Nat) : Int) + (-8) → (∀ s3, cTp s3 (D2 ++ [bAnd (bUsh x ((k : Nat) : Int)) 255]) → sq [(8000, 0), (8002, 0)] σ s3 → J n c_Tape_addFour none 3 [some (jo 8 0), some (ji x), some (ji k')] [] s3 (qV Q)) → J n c_Tape_addFour none 3 [some (jo 8 0), some (ji x), some (ji ((k : Nat) : Int))] [] s2 (qV Q) := by
    intro D2 s2 k k' h2 e2 hl2 hk hk' hnext
    have l02 := cln_at (hm.sq e2) 8002 0 800 (by decide)
    have v0 := h2.1
    refine wp_Tape_addFour_3 ?_
    rw [if_neg (by omega)]
    refine ⟨by omega, ?_⟩
    rw [if_neg (by omega), v0, l02]
    refine ⟨by omega, by omega, by omega, fun s4 e4 => ?_⟩
    have v4 : rs s4 8000 0 = ((D2.length : Nat) : Int) := by
      rw [e4, ((sq.rf [(8002, 0)] s2).pwa 8002 0 _ _ (by decide)).nrs 8000 0 (by decide)]; exact v0
    rw [v4]
    refine ⟨⟨by omega, by omega⟩, fun s8 e8 => ⟨⟨by omega, by omega⟩, ?_⟩⟩
    obtain ⟨a1, a2⟩ := h2.add (oct_rng _) hl2 e4 e8
    rw [← hk']
    exact hnext s8 a1 (e2.tr a2)
  refine wp_Tape_addFour ?_
  refine step D σ 24 16 hD (sq.rf _ _) (by omega) (by omega) (by omega) (fun s3 h3 e3 => ?_)
  refine step _ s3 16 8 h3 e3 (by rw [gd_len]; omega) (by omega) (by omega) (fun s4 h4 e4 => ?_)
  refine step _ s4 8 0 h4 e4 (by rw [gd_len, gd_len]; omega) (by omega) (by omega) (fun s5 h5 e5 => ?_)
  refine step _ s5 0 (-8) h5 e5 (by rw [gd_len, gd_len, gd_len]; omega) (by omega) (by omega) (fun s6 h6 e6 => ?_)
  refine wp_Tape_addFour_3 ?_
  rw [if_pos (by omega)]
  refine hq s6 e6 ?_
  have e : D ++ by4 x = D ++ [bAnd (bUsh x ((24 : Nat) : Int)) 255] ++ [bAnd (bUsh x ((16 : Nat) : Int)) 255] ++ [bAnd (bUsh x ((8 : Nat) : Int)) 255] ++ [bAnd (bUsh x ((0 : Nat) : Int)) 255] := by
    rw [List.append_assoc, List.append_assoc, List.append_assoc]
    rfl
  rw [e]
  exact h6
theorem mTp_add {b v : Int} {s4 s8 : jS} (h : mTp σ D) (hb : 0 ≤ b ∧ b ≤ 255) (hv : bAnd v 255 = b) (hl : D.length < 800) (e4 : s4 = wa σ 1000 0 ((D.length : Nat) : Int) v) (e8 : s8 = ws s4 1001 0 (((D.length : Nat) : Int) + 1)) : mTp s8 (D ++ [b]) ∧ sq [(1000, 0), (1001, 0)] σ s8 := by
  obtain ⟨h1, h2, h3, h4⟩ := h
  have f4 : sq [(1000, 0)] σ s4 := by rw [e4]; exact (sq.rf _ σ).pwa 1000 0 _ _ (by decide)
  have f8 : sq [(1001, 0)] s4 s8 := by rw [e8]; exact (sq.rf _ s4).pws 1001 0 _ (by decide)
  have r4 : ∀ j : Int, ra s4 1000 0 j = if j = ((D.length : Nat) : Int) then v else ra σ 1000 0 j := fun j => by
    rw [e4]
    unfold wa
    rw [raf_wA, if_pos ⟨rfl, rfl⟩]
    rfl
  refine ⟨⟨by rw [e8, rs_ws, if_pos ⟨rfl, rfl⟩, gd_len]; omega, by rw [gd_len]; omega, fun i hi => ?_, fun c hc => ?_⟩, (f4.mo (by decide)).tr (f8.mo (by decide))⟩
  · rw [gd_len] at hi
    rw [f8.nra 1000 0 _ (by decide), r4]
    by_cases q : i = D.length
    · rw [if_pos (by omega), q, gd_new]; exact hv
    · rw [if_neg (by omega), gd_old (by omega)]
      exact h3 i (by omega)
  · rw [List.mem_append, List.mem_singleton] at hc
    rcases hc with w | w
    · exact h4 c w
    · rw [w]; exact hb
theorem t_four {Q : jS → Prop} {x : Int} (hm : mln σ) (hD : mTp σ D) (hl : D.length + 4 ≤ 800) (hq : ∀ σ', sq [(1000, 0), (1001, 0)] σ σ' → mTp σ' (D ++ by4 x) → Q σ') : TrV n i_Model_four [jo 1 0, ji x] σ Q := by
  have step : ∀ (D2 : List Int) (s2 : jS) (k : Nat) (k' : Int), mTp s2 D2 → sq [(1000, 0), (1001, 0)] σ s2 → D2.length < 800 → k ≤ 24 → k' = ((k : Nat) : Int) + (-8) → (∀ s3, mTp s3 (D2 ++ [bAnd (bUsh x ((k : Nat) : Int)) 255]) → sq [(1000, 0), (1001, 0)] σ s3 → J n c_Model_four none 3 [some (jo 1 0), some (ji x), some (ji k')] [] s3 (qV Q)) → J n c_Model_four none 3 [some (jo 1 0), some (ji x), some (ji ((k : Nat) : Int))] [] s2 (qV Q) := by
    intro D2 s2 k k' h2 e2 hl2 hk hk' hnext
    have l00 := mln_at (hm.sq e2) 1000 800 (by decide)
    have v0 := h2.1
    refine wp_Model_four_3 ?_
    rw [if_neg (by omega), v0, l00]
    refine ⟨by omega, by omega, by omega, by omega, fun s4 e4 => ?_⟩
    have v4 : rs s4 1001 0 = ((D2.length : Nat) : Int) := by
      rw [e4, ((sq.rf [(1000, 0)] s2).pwa 1000 0 _ _ (by decide)).nrs 1001 0 (by decide)]; exact v0
    rw [v4]
    refine ⟨⟨by omega, by omega⟩, fun s8 e8 => ⟨⟨by omega, by omega⟩, ?_⟩⟩
    obtain ⟨a1, a2⟩ := mTp_add h2 (oct_rng _) (oct_eq x k hk) hl2 e4 e8
    rw [← hk']
    exact hnext s8 a1 (e2.tr a2)
  refine wp_Model_four ?_
  refine step D σ 24 16 hD (sq.rf _ _) (by omega) (by omega) (by omega) (fun s3 h3 e3 => ?_)
  refine step _ s3 16 8 h3 e3 (by rw [gd_len]; omega) (by omega) (by omega) (fun s4 h4 e4 => ?_)
  refine step _ s4 8 0 h4 e4 (by rw [gd_len, gd_len]; omega) (by omega) (by omega) (fun s5 h5 e5 => ?_)
  refine step _ s5 0 (-8) h5 e5 (by rw [gd_len, gd_len, gd_len]; omega) (by omega) (by omega) (fun s6 h6 e6 => ?_)
  refine wp_Model_four_3 ?_
  rw [if_pos (by omega)]
  refine hq s6 e6 ?_
  have e : D ++ by4 x = D ++ [bAnd (bUsh x ((24 : Nat) : Int)) 255] ++ [bAnd (bUsh x ((16 : Nat) : Int)) 255] ++ [bAnd (bUsh x ((8 : Nat) : Int)) 255] ++ [bAnd (bUsh x ((0 : Nat) : Int)) 255] := by
    rw [List.append_assoc, List.append_assoc, List.append_assoc]
    rfl
  rw [e]
  exact h6
/-- twenty octets more -/
def fdD (D : List Int) (a b c d e : Int) : List Int := D ++ by4 a ++ by4 b ++ by4 c ++ by4 d ++ by4 e
set_option maxRecDepth 8000 in
theorem c_feed {Q : Int → jS → Prop} {a b c d e : Int} (hn : 1 ≤ n) (hm : cln σ) (hC : cC σ) (hD : cTp σ D)
    (hq0 : 800 < D.length + 20 → Q (-1) σ)
    (hq1 : D.length + 20 ≤ 800 → ∀ σ', sq [(8000, 0), (8002, 0)] σ σ' → cTp σ' (fdD D a b c d e) → Q (((fdD D a b c d e).length : Nat) : Int) σ') : TrI n i_Top_feed [jo 12 0, ji a, ji b, ji c, ji d, ji e] σ Q := by
  have v0 := hD.1
  have h8 := hD.2.1
  have t12 : ∀ {s : jS}, sq [(8000, 0), (8002, 0)] σ s → rs s 12000 0 = 0 := fun e => by rw [e.nrs 12000 0 (by decide)]; exact cC_at hC 12000 0 0 (by decide)
  refine wp_Top_feed ⟨by omega, ?_⟩
  rw [t12 (sq.rf _ _), v0]
  refine ⟨by omega, ⟨by omega, by omega⟩, ?_⟩
  by_cases q : D.length + 20 ≤ 800
  · rw [if_pos (by omega)]
    have l4 : ∀ (l : List Int) (x : Int), (l ++ by4 x).length = l.length + 4 := fun l x => by rw [List.length_append]; rfl
    refine ⟨by omega, c_addFour hm hD (by omega) (fun s5 e5 h5 => ?_)⟩
    rw [t12 e5]
    refine ⟨by omega, c_addFour (hm.sq e5) h5 (by simp only [l4]; omega) (fun s8 f8 h8 => ?_)⟩
    have e8 := e5.tr f8
    rw [t12 e8]
    refine ⟨by omega, c_addFour (hm.sq e8) h8 (by simp only [l4]; omega) (fun s11 f11 h11 => ?_)⟩
    have e11 := e8.tr f11
    rw [t12 e11]
    refine ⟨by omega, c_addFour (hm.sq e11) h11 (by simp only [l4]; omega) (fun s14 f14 h14 => ?_)⟩
    have e14 := e11.tr f14
    rw [t12 e14]
    refine ⟨by omega, c_addFour (hm.sq e14) h14 (by simp only [l4]; omega) (fun s17 f17 h17 => ?_)⟩
    have e17 := e14.tr f17
    rw [t12 e17, h17.1]
    exact ⟨by omega, hq1 q s17 e17 h17⟩
  · rw [if_neg (by omega)]
    exact hq0 (by omega)
set_option maxRecDepth 8000 in
theorem t_feed {Q : Int → jS → Prop} {a b c d e : Int} (hn : 1 ≤ n) (hm : mln σ) (hD : mTp σ D)
    (hq0 : 800 < D.length + 20 → Q (-1) σ)
    (hq1 : D.length + 20 ≤ 800 → ∀ σ', sq [(1000, 0), (1001, 0)] σ σ' → mTp σ' (fdD D a b c d e) → Q (((fdD D a b c d e).length : Nat) : Int) σ') : TrI n i_Model_feed [jo 1 0, ji a, ji b, ji c, ji d, ji e] σ Q := by
  have v0 := hD.1
  have h8 := hD.2.1
  refine wp_Model_feed ⟨by omega, ?_⟩
  rw [v0]
  refine ⟨⟨by omega, by omega⟩, ?_⟩
  by_cases q : D.length + 20 ≤ 800
  · rw [if_pos (by omega)]
    have l4 : ∀ (l : List Int) (x : Int), (l ++ by4 x).length = l.length + 4 := fun l x => by rw [List.length_append]; rfl
    refine ⟨by omega, t_four hm hD (by omega) (fun s5 e5 h5 => t_four (hm.sq e5) h5 (by simp only [l4]; omega) (fun s8 f8 h8 => ?_))⟩
    have e8 := e5.tr f8
    refine t_four (hm.sq e8) h8 (by simp only [l4]; omega) (fun s11 f11 h11 => ?_)
    have e11 := e8.tr f11
    refine t_four (hm.sq e11) h11 (by simp only [l4]; omega) (fun s14 f14 h14 => ?_)
    have e14 := e11.tr f14
    refine t_four (hm.sq e14) h14 (by simp only [l4]; omega) (fun s17 f17 h17 => ?_)
    have e17 := e14.tr f17
    rw [h17.1]
    exact hq1 q s17 e17 h17
  · rw [if_neg (by omega)]
    exact hq0 (by omega)
end ZFe
