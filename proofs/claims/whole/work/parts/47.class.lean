/-! The class's nodes, as they lie in its rows. -/
def clT : List ((Nat × Int) × Int) := [((9008, 0), 2048), ((9009, 0), 2048), ((9010, 0), 26), ((9011, 0), 100), ((7002, 0), 9), ((7010, 0), 20), ((7011, 0), 20), ((7012, 0), 80), ((7013, 0), 200), ((4000, 0), 26), ((4000, 1), 26), ((8002, 0), 800), ((8003, 0), 12), ((10002, 0), 8), ((10002, 1), 8), ((10003, 0), 8), ((10003, 1), 8), ((10004, 0), 8), ((10004, 1), 8), ((10005, 0), 24), ((10005, 1), 24), ((10006, 0), 24), ((10006, 1), 24), ((10008, 0), 120), ((10008, 1), 120), ((10009, 0), 24), ((10009, 1), 24), ((11001, 0), 2000), ((11002, 0), 101), ((12001, 0), 4), ((12011, 0), 9), ((5001, 0), 40), ((5002, 0), 40), ((5004, 0), 40), ((5005, 0), 40), ((2000, 0), 128), ((2001, 0), 128), ((2002, 0), 128)]
def cln (σ : jS) : Prop := ∀ p, p ∈ clT → rl σ p.1.1 p.1.2 = p.2
theorem cln_at {σ : jS} (h : cln σ) (F : Nat) (o v : Int) (hm : (clT.contains ((F, o), v)) = true) : rl σ F o = v := h ((F, o), v) (List.contains_iff_mem.mp hm)
/-- rows that grow, all their lengths -/
def lenT : List (Nat × Int) := [(9003, 0), (9004, 0), (9005, 0), (9006, 0), (9007, 0), (6001, 0), (6001, 1), (6001, 2), (3001, 0), (3001, 1)]
def lens (σ : jS) : Int := (lenT.map (fun p => rl σ p.1 p.2)).sum
/-- rows of signs, doubled again and again -/
def pw4 (L : Int) : Prop := L = 256 ∨ L = 512 ∨ L = 1024 ∨ L = 2048 ∨ L = 4096 ∨ L = 8192 ∨ L = 16384 ∨ L = 32768 ∨ L = 65536 ∨ L = 131072 ∨ L = 262144 ∨ L = 524288 ∨ L = 1048576
/-- no fresh row is at hand, and there is room -/
def jnG (σ : jS) : Prop := jnT σ ∧ pw4 (rl σ 3001 0) ∧ pw4 (rl σ 3001 1) ∧ 256 * rc σ ≤ 512000 + lens σ + 512 * rk σ 0 ∧ rz σ ≤ 1300000 + 2 * lens σ + 102 * rk σ 0
theorem jnG_l {σ σ' : jS} (h : jnG σ) (h1 : jnT σ → jnT σ') (h2 : rl σ' 3001 0 = rl σ 3001 0) (h3 : rl σ' 3001 1 = rl σ 3001 1) (h4 : 256 * rc σ' + lens σ + 512 * rk σ 0 ≤ 256 * rc σ + lens σ' + 512 * rk σ' 0) (h5 : rz σ' + 2 * lens σ + 102 * rk σ 0 ≤ rz σ + 2 * lens σ' + 102 * rk σ' 0) : jnG σ' := by
  obtain ⟨a1, a2, a3, a4, a5⟩ := h
  exact ⟨h1 a1, by rw [h2]; exact a2, by rw [h3]; exact a3, by omega, by omega⟩
def rmg (σ σ' : jS) : Prop := rz σ' + 2 * lens σ ≤ rz σ + 2 * lens σ' ∧ rc σ' + lens σ ≤ rc σ + lens σ' ∧ lens σ ≤ lens σ'
def cf (l : List (Nat × Int)) (σ σ' : jS) : Prop := ∀ F o, F < 900000 → ¬ (F, o) ∈ l → rs σ' F o = rs σ F o ∧ (∀ i, ra σ' F o i = ra σ F o i) ∧ rl σ' F o = rl σ F o
def cq (l : List (Nat × Int)) (σ σ' : jS) : Prop := cf l σ σ' ∧ (∀ c, rk σ' c = rk σ c) ∧ rmg σ σ' ∧ (∀ F o, F < 900000 → ¬ (F, o) ∈ lenT → rl σ' F o = rl σ F o) ∧ (jnG σ → jnG σ')
theorem rmg.rf (σ : jS) : rmg σ σ := ⟨Int.le_refl _, Int.le_refl _, Int.le_refl _⟩
theorem rmg.tr {σ σ1 σ2 : jS} (h : rmg σ σ1) (h' : rmg σ1 σ2) : rmg σ σ2 := by
  obtain ⟨a1, a2, a3⟩ := h
  obtain ⟨b1, b2, b3⟩ := h'
  exact ⟨by omega, by omega, by omega⟩
theorem cf.tr {l : List (Nat × Int)} {σ σ1 σ2 : jS} (h : cf l σ σ1) (h' : cf l σ1 σ2) : cf l σ σ2 := fun F o q q2 => ⟨(h' F o q q2).1.trans (h F o q q2).1, fun i => ((h' F o q q2).2.1 i).trans ((h F o q q2).2.1 i), (h' F o q q2).2.2.trans (h F o q q2).2.2⟩
theorem cq.rf (l : List (Nat × Int)) (σ : jS) : cq l σ σ := ⟨fun _ _ _ _ => ⟨rfl, fun _ => rfl, rfl⟩, fun _ => rfl, rmg.rf σ, fun _ _ _ _ => rfl, fun h => h⟩
theorem cq.tr {l : List (Nat × Int)} {σ σ1 σ2 : jS} (h : cq l σ σ1) (h' : cq l σ1 σ2) : cq l σ σ2 := ⟨h.1.tr h'.1, fun c => (h'.2.1 c).trans (h.2.1 c), h.2.2.1.tr h'.2.2.1, fun F o q q2 => (h'.2.2.2.1 F o q q2).trans (h.2.2.2.1 F o q q2), fun q => h'.2.2.2.2 (h.2.2.2.2 q)⟩
theorem sq.cq {l l' : List (Nat × Int)} {σ σ1 : jS} (h : sq l σ σ1) (hl : (l.all (fun p => l'.contains p)) = true) : cq l' σ σ1 := by
  have h := h.mo hl
  have e : lens σ1 = lens σ := by unfold lens; simp only [h.2.1]
  refine ⟨fun F o _ q => ⟨(h.1 F o q).1, (h.1 F o q).2, h.2.1 F o⟩, h.2.2.1, ⟨?_, ?_, ?_⟩, fun F o _ _ => h.2.1 F o, fun q => jnG_l q (fun q t => by rw [h.2.1]; exact q t) (h.2.1 _ _) (h.2.1 _ _) (by rw [e, h.2.2.1, h.2.2.2.1]; exact Int.le_refl _) (by rw [e, h.2.2.1, h.2.2.2.2]; exact Int.le_refl _)⟩
  · rw [e, h.2.2.2.2]; exact Int.le_refl _
  · rw [e, h.2.2.2.1]; exact Int.le_refl _
  · rw [e]; exact Int.le_refl _
theorem cq.mo {l l' : List (Nat × Int)} {σ σ1 : jS} (h : cq l σ σ1) (hl : (l.all (fun p => l'.contains p)) = true) : cq l' σ σ1 := ⟨fun F o q q2 => h.1 F o q (fun m => q2 (List.contains_iff_mem.mp (List.all_eq_true.mp hl _ m))), h.2⟩
theorem cq.nrs {l : List (Nat × Int)} {σ σ1 : jS} (h : cq l σ σ1) (F : Nat) (o : Int) (hF : F < 900000) (hm : (l.contains (F, o)) = false) : rs σ1 F o = rs σ F o := (h.1 F o hF (fun m => by rw [List.contains_iff_mem.mpr m] at hm; cases hm)).1
theorem cq.nraf {l : List (Nat × Int)} {σ σ1 : jS} (h : cq l σ σ1) (F : Nat) (o : Int) (hF : F < 900000) (hm : (l.contains (F, o)) = false) : ra σ1 F o = ra σ F o := funext (h.1 F o hF (fun m => by rw [List.contains_iff_mem.mpr m] at hm; cases hm)).2.1
theorem cq.nrl {l : List (Nat × Int)} {σ σ1 : jS} (h : cq l σ σ1) (F : Nat) (o : Int) (hF : F < 900000) (hm : (l.contains (F, o)) = false) : rl σ1 F o = rl σ F o := (h.1 F o hF (fun m => by rw [List.contains_iff_mem.mpr m] at hm; cases hm)).2.2
def gr2 (L : Int) : Prop := L = 256 ∨ L = 512 ∨ L = 1024 ∨ L = 2048 ∨ L = 4096 ∨ L = 8192 ∨ L = 16384 ∨ L = 32768 ∨ L = 65536
def sg (g : zH) (n : Int) : Int := if gh g n = -1 then 104 else gh g n
def cT0 (σ : jS) (g : zH) (N : Int) (β : List (Int × Int)) : Prop :=
  cln σ ∧ zok g N ∧ bok g N β ∧ rs σ 9000 0 = N ∧ 0 ≤ N ∧ N ≤ 40000 ∧ zu g N ≤ 20000 ∧
  (N ≤ rl σ 9003 0 ∧ gr2 (rl σ 9003 0) ∧ rl σ 9004 0 = rl σ 9003 0 ∧ rl σ 9005 0 = 3 * rl σ 9003 0) ∧ gr2 (rl σ 9006 0) ∧
  (∀ n, 0 ≤ n → n < N → ra σ 9003 0 n = sg g n) ∧
  (∀ n, 0 ≤ n → n < N → ∀ k : Nat, k < pN (gh g n) → ra σ 9005 0 (n * 3 + k) = gp g n k) ∧
  (∀ n, 0 ≤ n → n < N → gh g n = -1 → ra σ 9005 0 (n * 3) = bl β n) ∧ (rs σ 9001 0 = (β.length : Nat) ∧ (β.length : Nat) ≤ rl σ 9006 0) ∧ trl (ra σ 9006 0) β
/-- none is listed -/
def mk0 (σ : jS) : Prop := ∀ i, 0 ≤ i → i < rl σ 9004 0 → ra σ 9004 0 i = 0
def cT (σ : jS) (g : zH) (N : Int) (β : List (Int × Int)) : Prop := cT0 σ g N β ∧ mk0 σ
def cTf : List (Nat × Int) := [(9000, 0), (9001, 0), (9003, 0), (9005, 0), (9006, 0)]
theorem clT_ok : (clT.all (fun p => decide (p.1.1 < 900000))) = true := by decide
theorem cln.sq {l : List (Nat × Int)} {σ σ1 : jS} (m : cln σ) (h : sq l σ σ1) : cln σ1 := fun p hp => (h.nrl _ _).trans (m p hp)
theorem cln.cq {l : List (Nat × Int)} {σ σ1 : jS} (m : cln σ) (h : cq l σ σ1) : cln σ1 := fun p hp => by
  have h2 := List.all_eq_true.mp clT_ok p hp
  have h3 : ∀ p, p ∈ clT → ¬ (p.1.1, p.1.2) ∈ lenT := by decide
  exact (h.2.2.2.1 _ _ (of_decide_eq_true h2) (h3 p hp)).trans (m p hp)
theorem cq.nrl2 {l : List (Nat × Int)} {σ σ1 : jS} (h : cq l σ σ1) (F : Nat) (o : Int) (hF : F < 900000) (hm : (lenT.contains (F, o)) = false) : rl σ1 F o = rl σ F o := h.2.2.2.1 F o hF (fun m => by rw [List.contains_iff_mem.mpr m] at hm; cases hm)
theorem cT0.sq {σ σ1 : jS} {g : zH} {N : Int} {β : List (Int × Int)} {l : List (Nat × Int)} (h : cT0 σ g N β) (e : sq l σ σ1) (hl : (cTf.all (fun p => !l.contains p)) = true) : cT0 σ1 g N β := by
  have hm : ∀ p, p ∈ cTf → l.contains p = false := fun p hp => by
    have := List.all_eq_true.mp hl p hp
    simpa using this
  obtain ⟨h1, h2, h3, h4, h5, h6, h7, h8, h9, h10, h11, h12, h13, h14⟩ := h
  unfold cT0
  rw [e.nraf 9003 0 (hm _ (by decide)), e.nraf 9005 0 (hm _ (by decide)), e.nraf 9006 0 (hm _ (by decide)), e.nrs 9000 0 (hm _ (by decide)), e.nrs 9001 0 (hm _ (by decide)), e.nrl 9003 0, e.nrl 9004 0, e.nrl 9005 0, e.nrl 9006 0]
  exact ⟨h1.sq e, h2, h3, h4, h5, h6, h7, h8, h9, h10, h11, h12, h13, h14⟩
theorem mk0.sq {σ σ1 : jS} {l : List (Nat × Int)} (h : mk0 σ) (e : sq l σ σ1) (hl : (l.contains (9004, 0)) = false) : mk0 σ1 := by
  unfold mk0
  rw [e.nraf 9004 0 hl, e.nrl 9004 0]
  exact h
theorem cT.sq {σ σ1 : jS} {g : zH} {N : Int} {β : List (Int × Int)} {l : List (Nat × Int)} (h : cT σ g N β) (e : sq l σ σ1) (hl : (((9004, 0) :: cTf).all (fun p => !l.contains p)) = true) : cT σ1 g N β := by
  rw [List.all_cons, Bool.and_eq_true] at hl
  exact ⟨h.1.sq e hl.2, h.2.sq e (by simpa using hl.1)⟩
section ZC
variable {n : Nat} {σ : jS} {g : zH} {N : Int} {β : List (Int × Int)} {x u t : Int}
theorem c_fparts {Q : Int → jS → Prop} {t : Int} (h0 : 0 ≤ t) (h1 : t ≤ 104) (hq : Q (if t = 104 then 0 else (pN t : Nat)) σ) : TrI n i_Flat_partsOf [ji t] σ Q := by
  refine wp_Flat_partsOf ?_
  rw [if_neg (by omega)]
  by_cases e : t = 104
  · rw [if_neg (by omega)]
    rw [if_pos e] at hq
    exact hq
  · rw [if_pos (by omega)]
    rw [if_neg e] at hq
    have key : ∀ m, m < 104 → bAnd ((m : Nat) : Int) 3 = ((m % 4 : Nat) : Int) := by decide +kernel
    have h2 : bAnd t 3 = (pN t : Nat) := by
      obtain ⟨m, rfl⟩ := Int.eq_ofNat_of_zero_le h0
      have := key m (by omega)
      rw [this]
      unfold pN
      rw [if_neg (by omega)]
      omega
    rw [h2]
    exact hq
theorem c_signOf {Q : Int → jS → Prop} (h : cT0 σ g N β) (x0 : 0 ≤ x) (x1 : x < N) (hq : Q (sg g x) σ) : TrI n i_Terms_signOf [jo 9 0, ji x] σ Q := by
  obtain ⟨hl, hz, hb, h4, h5, h6, h7, ⟨h8, h8b, h8c, h8d⟩, h9, h10, h11, h12, h13, h14⟩ := h
  refine wp_Terms_signOf ?_
  rw [if_neg (by omega), if_neg (by omega), if_neg (by omega), h10 x x0 x1]
  exact ⟨by omega, by omega, by omega, by omega, hq⟩
theorem c_isUnknown {Q : Int → jS → Prop} (hn : 1 ≤ n) (h : cT0 σ g N β) (x0 : 0 ≤ x) (x1 : x < N) (hq : Q (if gh g x = -1 then 1 else 0) σ) : TrI n i_Terms_isUnknown [jo 9 0, ji x] σ Q := by
  have hz := h.2.1
  refine wp_Terms_isUnknown ⟨by omega, hn, ?_⟩
  refine c_signOf h x0 x1 ?_
  unfold sg
  by_cases q : gh g x = -1
  · rw [if_pos q, if_neg (fun w => w rfl)]
    rw [if_pos q] at hq
    exact hq
  · rw [if_neg q, if_pos]
    · rw [if_neg q] at hq
      exact hq
    · rcases (hz x x0 x1).1 with w | w
      · exact absurd w q
      · omega
theorem c_partOf {Q : Int → jS → Prop} {k : Nat} (h : cT0 σ g N β) (x0 : 0 ≤ x) (x1 : x < N) (hk : k < 3) (hq : Q (ra σ 9005 0 (x * 3 + k)) σ) : TrI n i_Terms_partOf [jo 9 0, ji x, ji (k : Nat)] σ Q := by
  obtain ⟨hl, hz, hb, h4, h5, h6, h7, ⟨h8, h8b, h8c, h8d⟩, h9, h10, h11, h12, h13, h14⟩ := h
  refine wp_Terms_partOf ⟨⟨by omega, by omega⟩, ⟨by omega, by omega⟩, ?_⟩
  rw [if_neg (by omega), if_neg (by omega), if_neg (by omega), if_neg (by omega)]
  exact ⟨by omega, by omega, by omega, by omega, hq⟩
theorem c_setPart0 {Q : jS → Prop} {k : Nat} {v : Int} (h4 : rs σ 9000 0 = N) (h6 : N ≤ 40000) (h8 : N * 3 ≤ rl σ 9005 0) (x0 : 0 ≤ x) (x1 : x < N) (hk : k < 3) (hq : Q (wa σ 9005 0 (x * 3 + k) v)) : TrV n i_Terms_setPart [jo 9 0, ji x, ji (k : Nat), ji v] σ Q := by
  refine wp_Terms_setPart ⟨⟨by omega, by omega⟩, ⟨by omega, by omega⟩, ?_⟩
  rw [if_neg (by omega), if_neg (by omega), if_neg (by omega), if_neg (by omega)]
  exact ⟨by omega, by omega, by omega, by omega, fun s e => by rw [e]; exact hq⟩
theorem c_setPart {Q : jS → Prop} {k : Nat} {v : Int} (h : cT0 σ g N β) (x0 : 0 ≤ x) (x1 : x < N) (hk : k < 3) (hq : Q (wa σ 9005 0 (x * 3 + k) v)) : TrV n i_Terms_setPart [jo 9 0, ji x, ji (k : Nat), ji v] σ Q := by
  obtain ⟨hl, hz, hb, h4, h5, h6, h7, ⟨h8, h8b, h8c, h8d⟩, h9, h10, h11, h12, h13, h14⟩ := h
  exact c_setPart0 h4 h6 (by omega) x0 x1 hk hq
theorem c_part {Q : Int → jS → Prop} {k : Nat} (h : cT0 σ g N β) (x0 : 0 ≤ x) (x1 : x < N) (hk : k < pN (gh g x)) (hq : Q (gp g x k) σ) : TrI n i_Terms_partOf [jo 9 0, ji x, ji (k : Nat)] σ Q := by
  refine c_partOf h x0 x1 (by have := pN_3 h.2.1 x0 x1; omega) ?_
  rw [h.2.2.2.2.2.2.2.2.2.2.1 x x0 x1 k hk]
  exact hq
theorem c_bound {Q : Int → jS → Prop} (h : cT0 σ g N β) (x0 : 0 ≤ x) (x1 : x < N) (hu : gh g x = -1) (hq : Q (bl β x) σ) : TrI n i_Terms_partOf [jo 9 0, ji x, ji 0] σ Q := by
  refine c_partOf (k := 0) h x0 x1 (by omega) ?_
  have := h.2.2.2.2.2.2.2.2.2.2.2.1 x x0 x1 hu
  rw [show x * 3 + ((0 : Nat) : Int) = x * 3 by omega, this]
  exact hq
theorem c_solved {Q : Int → jS → Prop} (hn : 1 ≤ n) (h : cT0 σ g N β) (ha : acy g N β) (x0 : 0 ≤ x) (x1 : x < N) (hq : Q (sv g N β x) σ) : TrI n i_Terms_solved [jo 9 0, ji x] σ Q := by
  have hz := h.2.1
  have hb := h.2.2.1
  have h4 := h.2.2.2.1
  have hN := h.2.2.2.2.2.1
  obtain ⟨r, hr, hrn⟩ := acy_norm hz hb ha
  have key : ∀ y, 0 ≤ y → y < N → ∀ i : Nat, i + r y < N.toNat → Q (sv g N β y) σ → J n c_Terms_solved (some .int) 4 [some (jo 9 0), none, some (ji y), some (ji (i : Nat))] [] σ (qI Q) := by
    refine zind hz hb ha (fun y h0 h1 hu hf => ?_) (fun y h0 h1 hu hf b0 b1 ih => ?_) (fun y h0 h1 hu ih => ?_)
    · intro i hi hq
      rw [sv_id hz hb ha h0 h1 (fun _ => hf)] at hq
      refine wp_Terms_solved_4 ⟨by omega, ?_⟩
      rw [if_neg (by omega)]
      refine ⟨hn, c_signOf h h0 h1 ?_⟩
      unfold sg
      rw [if_pos hu, if_neg (fun w => w rfl)]
      refine c_bound h h0 h1 hu ?_
      rw [if_pos hf]
      exact hq
    · intro i hi hq
      rw [sv_bd hz hb ha hf] at hq
      have := (hr y h0 h1).2 hu hf
      refine wp_Terms_solved_4 ⟨by omega, ?_⟩
      rw [if_neg (by omega)]
      refine ⟨hn, c_signOf h h0 h1 ?_⟩
      unfold sg
      rw [if_pos hu, if_neg (fun w => w rfl)]
      refine c_bound h h0 h1 hu ?_
      rw [if_neg hf]
      refine c_bound h h0 h1 hu ⟨⟨by omega, by omega⟩, ?_⟩
      exact ih (i + 1) (by omega) hq
    · intro i hi hq
      rw [sv_id hz hb ha h0 h1 (fun q => absurd q hu)] at hq
      refine wp_Terms_solved_4 ⟨by omega, ?_⟩
      rw [if_neg (by omega)]
      refine ⟨hn, c_signOf h h0 h1 ?_⟩
      unfold sg
      rw [if_neg hu, if_pos]
      · exact hq
      · rcases (hz y h0 h1).1 with w | w
        · exact absurd w hu
        · omega
  exact wp_Terms_solved (key x x0 x1 0 (by have := hrn x x0 x1; omega) hq)
theorem c_isListed {Q : Int → jS → Prop} (h : cT0 σ g N β) (x0 : 0 ≤ x) (x1 : x < N) (hq : Q (if ra σ 9004 0 x = 1 then 1 else 0) σ) : TrI n i_Terms_isListed [jo 9 0, ji x] σ Q := by
  obtain ⟨hl, hz, hb, h4, h5, h6, h7, ⟨h8, h8b, h8c, h8d⟩, h9, h10, h11, h12, h13, h14⟩ := h
  refine wp_Terms_isListed ?_
  rw [if_neg (by omega), if_neg (by omega), if_neg (by omega)]
  refine ⟨by omega, by omega, by omega, by omega, ?_⟩
  by_cases q : ra σ 9004 0 x = 1
  · rw [if_neg (fun w => w q)]
    rw [if_pos q] at hq
    exact hq
  · rw [if_pos q]
    rw [if_neg q] at hq
    exact hq
theorem c_setListed {Q : jS → Prop} {v : Int} (h : cT0 σ g N β) (x0 : 0 ≤ x) (x1 : x < N) (hq : Q (wa σ 9004 0 x v)) : TrV n i_Terms_setListed [jo 9 0, ji x, ji v] σ Q := by
  obtain ⟨hl, hz, hb, h4, h5, h6, h7, ⟨h8, h8b, h8c, h8d⟩, h9, h10, h11, h12, h13, h14⟩ := h
  refine wp_Terms_setListed ?_
  rw [if_neg (by omega), if_neg (by omega), if_neg (by omega)]
  exact ⟨by omega, by omega, by omega, by omega, fun s e => by rw [e]; exact hq⟩
theorem c_pushOpen {Q : jS → Prop} {v : Int} (h : cln σ) (h0 : 0 ≤ rs σ 9012 0) (h1 : rs σ 9012 0 < 2048) (hq : Q (ws (wa σ 9008 0 (rs σ 9012 0) v) 9012 0 (rs σ 9012 0 + 1))) : TrV n i_Terms_pushOpen [jo 9 0, ji v] σ Q := by
  have l8 := cln_at h 9008 0 2048 (by decide)
  refine wp_Terms_pushOpen ⟨by omega, ?_⟩
  rw [if_neg (by omega)]
  exact ⟨by omega, by omega, by omega, fun s1 e1 => ⟨by rw [e1]; exact ⟨by show -2147483648 ≤ rs σ 9012 0 + 1; omega, by show rs σ 9012 0 + 1 < 2147483648; omega⟩, fun s2 e2 => by rw [e2, e1]; exact hq⟩⟩
end ZC
