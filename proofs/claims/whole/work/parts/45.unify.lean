/-! Two types become one: the reference's way. -/
def peq (ρ : Int → List Int) (P : List (Int × Int)) : Prop := ∀ p, p ∈ P → ρ p.1 = ρ p.2
def stk2 (f : Int → Int) : List (Int × Int) → Prop
  | [] => True
  | (a, b) :: P => (f (2 * (P.length : Nat)) = a ∧ f (2 * (P.length : Nat) + 1) = b) ∧ stk2 f P
theorem stk2_ge {f : Int → Int} {v : Int} {m : Int} : ∀ {P : List (Int × Int)}, 2 * (P.length : Nat) ≤ m → stk2 f P → stk2 (upI f m v) P := by
  intro P
  induction P with
  | nil => intro _ _; trivial
  | cons a P ih =>
    obtain ⟨a, b⟩ := a
    intro hm h
    rw [List.length_cons] at hm
    refine ⟨⟨?_, ?_⟩, ih (by omega) h.2⟩
    · unfold upI
      rw [if_neg (by omega)]
      exact h.1.1
    · unfold upI
      rw [if_neg (by omega)]
      exact h.1.2
theorem stk2_up {f : Int → Int} {P : List (Int × Int)} {a b : Int} (h : stk2 f P) : stk2 (upI (upI f (2 * (P.length : Nat)) a) (2 * (P.length : Nat) + 1) b) ((a, b) :: P) := by
  refine ⟨⟨?_, ?_⟩, stk2_ge (by omega) (stk2_ge (Int.le_refl _) h)⟩
  · unfold upI
    rw [if_neg (by omega), if_pos rfl]
  · unfold upI
    rw [if_pos rfl]
def ust (g : zH) (N : Int) (β : List (Int × Int)) (Rs : List Int) : List (Int × Int) → Prop
  | [] => True
  | (a, b) :: P => (0 ≤ a ∧ a < N ∧ 0 ≤ b ∧ b < N ∧ sv g N β a ∈ Rs ∧ sv g N β b ∈ Rs ∧ ∀ r, rkd g N β r → P.length + 2 * dR Rs r (sv g N β a) ≤ 2 * Rs.length) ∧ ust g N β Rs P
def mz2 (g : zH) (N : Int) (β : List (Int × Int)) (P : List (Int × Int)) : Nat := (P.map (fun p => (ex g N β p.1).length)).sum
section ZU
variable {n : Nat} {σ : jS} {g : zH} {N : Int} {β : List (Int × Int)} {x y u t a b : Int} {Rs : List Int} {r : Int → Nat} {ρ : Int → List Int}
theorem sv_bind (hz : zok g N) (hb : bok g N β) (ha : acy g N β) (u0 : 0 ≤ u) (u1 : u < N) (hu : gh g u = -1) (hf : bl β u = -1) (t0 : 0 ≤ t) (t1 : t < N) (ts : svd g β t) (tu : ¬ t = u) (ha2 : acy g N ((u, t) :: β)) : ∀ m, 0 ≤ m → m < N → sv g N ((u, t) :: β) m = if sv g N β m = u then t else sv g N β m := by
  have hb2 := bind_bok hb u0 u1 hu hf t0 t1
  have e1 : sv g N ((u, t) :: β) t = t := sv_id hz hb2 ha2 t0 t1 (fun q => by rw [bl_cons_ne tu]; exact ts q)
  refine zind hz hb ha (fun m h0 h1 hm hb0 => ?_) (fun m h0 h1 hm hb0 b0 b1 ih => ?_) (fun m h0 h1 hm ih => ?_)
  · rw [sv_id hz hb ha h0 h1 (fun _ => hb0)]
    by_cases q : m = u
    · rw [if_pos q, q, sv_bd hz hb2 ha2 (by rw [bl_cons_eq]; omega), bl_cons_eq, e1]
    · rw [if_neg q]
      exact sv_id hz hb2 ha2 h0 h1 (fun _ => by rw [bl_cons_ne q]; exact hb0)
  · have q : ¬ m = u := fun q => hb0 (by rw [q]; exact hf)
    rw [sv_bd hz hb ha hb0, sv_bd hz hb2 ha2 (by rw [bl_cons_ne q]; exact hb0), bl_cons_ne q]
    exact ih
  · rw [sv_id hz hb ha h0 h1 (fun q => absurd q hm), sv_id hz hb2 ha2 h0 h1 (fun q => absurd q hm), if_neg (fun q => hm (by rw [q]; exact hu))]
theorem sml_bind (hz : zok g N) (hb : bok g N β) (ha : acy g N β) (hs : sml g N β Rs) (u0 : 0 ≤ u) (u1 : u < N) (hu : gh g u = -1) (hf : bl β u = -1) (t0 : 0 ≤ t) (t1 : t < N) (ts : svd g β t) (tu : ¬ t = u) (tR : t ∈ Rs) (ha2 : acy g N ((u, t) :: β)) : sml g N ((u, t) :: β) Rs := fun m hm => by
  obtain ⟨m0, m1, m2⟩ := hs m hm
  refine ⟨m0, m1, fun k hk => ?_⟩
  have p := (hz m m0 m1).2 k hk
  rw [sv_bind hz hb ha u0 u1 hu hf t0 t1 ts tu ha2 _ p.1 (by omega)]
  split
  · exact tR
  · exact m2 k hk
theorem ust_bind (hz : zok g N) (hb : bok g N β) (ha : acy g N β) (u0 : 0 ≤ u) (u1 : u < N) (hu : gh g u = -1) (hf : bl β u = -1) (t0 : 0 ≤ t) (t1 : t < N) (ts : svd g β t) (tu : ¬ t = u) (tR : t ∈ Rs) (ha2 : acy g N ((u, t) :: β)) : ∀ {P : List (Int × Int)}, ust g N β Rs P → ust g N ((u, t) :: β) Rs P := by
  intro P
  induction P with
  | nil => intro _; trivial
  | cons p P ih =>
    obtain ⟨a, b⟩ := p
    rintro ⟨⟨a0, a1, b0, b1, a2, b2, a3⟩, h⟩
    refine ⟨⟨a0, a1, b0, b1, ?_, ?_, fun r hr => ?_⟩, ih h⟩
    · rw [sv_bind hz hb ha u0 u1 hu hf t0 t1 ts tu ha2 a a0 a1]
      split
      · exact tR
      · exact a2
    · rw [sv_bind hz hb ha u0 u1 hu hf t0 t1 ts tu ha2 b b0 b1]
      split
      · exact tR
      · exact b2
    · have h1 := a3 r (rkd_tl hf hr)
      rw [sv_bind hz hb ha u0 u1 hu hf t0 t1 ts tu ha2 a a0 a1]
      split
      · rename_i q
        have h2 := (hr u u0 u1).2 hu (by rw [bl_cons_eq]; omega)
        rw [bl_cons_eq] at h2
        rw [q] at h1
        have := dR_le (Rs := Rs) (r := r) (Nat.le_of_lt h2)
        omega
      · exact h1
theorem ust_psh (hz : zok g N) (hb : bok g N β) (ha : acy g N β) (hs : sml g N β Rs) {x y : Int} (hx : x ∈ Rs) (hy : y ∈ Rs) (he : gh g x = gh g y) : ∀ (j k : Nat) (P : List (Int × Int)), k + j = pN (gh g x) → (∀ r, rkd g N β r → P.length + 2 * dR Rs r x ≤ 2 * Rs.length + k) → ust g N β Rs P → ust g N β Rs (psh (fun k => (gp g x k, gp g y k)) k j P) := by
  intro j
  induction j with
  | zero => intro k P _ _ h; exact h
  | succ j ih =>
    intro k P hk hP h
    rw [psh_s]
    obtain ⟨x0, x1, hx2⟩ := hs x hx
    obtain ⟨y0, y1, hy2⟩ := hs y hy
    have := pN_3 hz x0 x1
    have px := (hz x x0 x1).2 k (by omega)
    have py := (hz y y0 y1).2 k (by rw [← he]; omega)
    refine ih (k + 1) _ (by omega) (fun r hr => by rw [List.length_cons]; have := hP r hr; omega) ⟨⟨px.1, by omega, py.1, by omega, hx2 k (by omega), hy2 k (by rw [← he]; omega), fun r hr => ?_⟩, h⟩
    have := (part_r hz hb ha hr hs hx (k := k) (by omega)).2.1
    have := hP r hr
    omega
theorem ust_all : ∀ {P : List (Int × Int)}, ust g N β Rs P → ∀ p, p ∈ P → 0 ≤ p.1 ∧ p.1 < N ∧ 0 ≤ p.2 ∧ p.2 < N := by
  intro P
  induction P with
  | nil => intro _ p hp; cases hp
  | cons q P ih =>
    intro h p hp
    rcases List.mem_cons.mp hp with e | e
    · rw [e]; exact ⟨h.1.1, h.1.2.1, h.1.2.2.1, h.1.2.2.2.1⟩
    · exact ih h.2 p e
theorem mz2_psh (f : Nat → Int × Int) (k j : Nat) (P : List (Int × Int)) : mz2 g N β (psh f k j P) = ((List.range' k j).map (fun k => (ex g N β (f k).1).length)).sum + mz2 g N β P := by
  unfold mz2 psh
  rw [List.map_append, List.sum_append, List.map_reverse, List.sum_reverse, List.map_map]
  rfl
/-- two that begin alike are one if their parts are -/
theorem con_dec (hz : zok g N) (hs : sol g N β ρ) (x0 : 0 ≤ x) (x1 : x < N) (y0 : 0 ≤ y) (y1 : y < N) (hx : ¬ gh g x = -1) (he : gh g x = gh g y) : ρ x = ρ y ↔ ∀ k, k < pN (gh g x) → ρ (gp g x k) = ρ (gp g y k) := by
  have hx' := (hs x x0 x1).2.1 hx
  have hy' := (hs y y0 y1).2.1 (by rw [← he]; exact hx)
  rw [hx', hy', ← he]
  constructor
  · intro h k hk
    have h := (List.cons.inj h).2
    have := flat_inj (ps := (List.range (pN (gh g x))).map (fun k => ρ (gp g x k))) (qs := (List.range (pN (gh g x))).map (fun k => ρ (gp g y k))) (fun r hr => ?_) (fun r hr => ?_) (by simp) h
    · have h2 : ((List.range (pN (gh g x))).map (fun k => ρ (gp g x k)))[k]? = ((List.range (pN (gh g x))).map (fun k => ρ (gp g y k)))[k]? := by rw [this]
      simpa [hk] using h2
    · obtain ⟨k, hk, e⟩ := map_mem hr
      have := (hz x x0 x1).2 k hk
      rw [← e]
      exact (hs _ this.1 (by omega)).1
    · obtain ⟨k, hk, e⟩ := map_mem hr
      have := (hz y y0 y1).2 k (by rw [← he]; exact hk)
      rw [← e]
      exact (hs _ this.1 (by omega)).1
  · intro h
    rw [flat_congr h]
theorem con_no (hs : sol g N β ρ) (x0 : 0 ≤ x) (x1 : x < N) (y0 : 0 ≤ y) (y1 : y < N) (hx : ¬ gh g x = -1) (hy : ¬ gh g y = -1) (he : ¬ gh g x = gh g y) : ¬ ρ x = ρ y := by
  rw [(hs x x0 x1).2.1 hx, (hs y y0 y1).2.1 hy]
  intro h
  exact he (List.cons.inj h).1
theorem peq_cons {P : List (Int × Int)} : peq ρ ((a, b) :: P) ↔ ρ a = ρ b ∧ peq ρ P := by
  constructor
  · intro h
    exact ⟨h _ List.mem_cons_self, fun p hp => h p (List.mem_cons_of_mem _ hp)⟩
  · rintro ⟨h1, h2⟩ p hp
    rcases List.mem_cons.mp hp with e | e
    · rw [e]; exact h1
    · exact h2 p e
theorem peq_psh {P : List (Int × Int)} {f : Nat → Int × Int} {m : Nat} : peq ρ (psh f 0 m P) ↔ (∀ k, k < m → ρ (f k).1 = ρ (f k).2) ∧ peq ρ P := by
  constructor
  · intro h
    exact ⟨fun k hk => h _ (psh_mem.mpr (Or.inl ⟨k, hk, rfl⟩)), fun p hp => h p (psh_mem.mpr (Or.inr hp))⟩
  · rintro ⟨h1, h2⟩ p hp
    rcases psh_mem.mp hp with ⟨k, hk, e⟩ | e
    · rw [e]; exact h1 k hk
    · exact h2 p e
theorem t_untie {Q : jS → Prop} : ∀ (new : List (Int × Int)) (σ : jS), mT σ g N (new ++ β) → (∀ σ', mT σ' g N β → sq [(1030, 0), (1035, 0)] σ σ' → Q σ') → J n c_Model_untie none 0 [some (jo 1 0), some (ji (β.length : Nat))] [] σ (qV Q) := by
  intro new
  induction new with
  | nil =>
    intro σ h hq
    refine wp_Model_untie_0 ⟨by omega, ?_⟩
    rw [if_pos (by have := h.2.2.2.2.2.2.2.2.2.2.2.1; rw [List.nil_append] at this; omega)]
    exact hq σ h (sq.rf _ σ)
  | cons p new ih =>
    obtain ⟨u, t⟩ := p
    intro σ h hq
    obtain ⟨hl, hz, hb, h4, h5, h6, h7, h8, h9, h10, h11, h12, h13⟩ := h
    have l30 := mln_at hl 1030 40000 (by decide)
    have l32 := mln_at hl 1032 20000 (by decide)
    have hlen := bl_len hb
    rw [List.cons_append] at hlen h12 h13 h11 hb
    rw [List.length_cons] at hlen h12
    obtain ⟨⟨u0, u1, hu, t0, t1, hf⟩, hb⟩ := hb
    have el : ((new ++ β).length + 1 : Nat) - (1 : Int) = ((new ++ β).length : Nat) := by omega
    have e32 : ra σ 1032 0 ((new ++ β).length : Nat) = u := h13.1
    refine wp_Model_untie_0 ⟨by omega, ?_⟩
    rw [if_neg (by rw [h12, List.length_append]; omega), h12, el]
    refine ⟨⟨by omega, by omega⟩, fun σ1 e1 => ?_⟩
    have r1 : rs σ1 1035 0 = ((new ++ β).length : Nat) := by rw [e1, rs_ws, if_pos ⟨rfl, rfl⟩]
    have r2 : ra σ1 1032 0 ((new ++ β).length : Nat) = u := by rw [e1]; exact e32
    have l30' : rl σ1 1030 0 = 40000 := by rw [e1]; exact l30
    have l32' : rl σ1 1032 0 = 20000 := by rw [e1]; exact l32
    rw [r1, r2]
    refine ⟨by omega, by omega, by omega, by omega, by omega, by omega, fun σ2 e2 => ?_⟩
    refine ih σ2 ?_ (fun σ' h1 h2 => hq σ' h1 ((((sq.rf _ σ).pws 1035 0 _ (by decide)).pwa 1030 0 _ _ (by decide)).tr (by rw [e2, e1] at h2; exact h2)))
    subst e1 e2
    refine ⟨fun p hp => hl p hp, hz, hb, h4, h5, h6, h7, h8, h9, h10, fun m m0 m1 hm => ?_, r1, h13.2⟩
    show upI (ra σ 1030 0) u (-1) m = _
    unfold upI
    by_cases q : m = u
    · rw [if_pos q, q, hf]
    · rw [if_neg q, h11 m m0 m1 hm, bl_cons_ne q]
def uF : List (Nat × Int) := [(1030, 0), (1032, 0), (1035, 0), (1039, 0), (1040, 0)]
theorem mT_sq40 {σ1 : jS} (h : mT σ g N β) (e : sq [(1040, 0)] σ σ1) : mT σ1 g N β := h.sq e (by decide)
theorem t_unify163 {Q : Int → jS → Prop} (hn : 1 ≤ n) (h : mT σ g N β) (x0 : 0 ≤ x) (x1 : x < N) (y0 : 0 ≤ y) (y1 : y < N) (he : gh g x = gh g y) : ∀ (j k : Nat) (P : List (Int × Int)) (σ1 : jS), k + j = pN (gh g x) → 2 * (P.length + j) ≤ 3990 → sq [(1040, 0)] σ σ1 → stk2 (ra σ1 1040 0) P → (∀ σ2, sq [(1040, 0)] σ σ2 → stk2 (ra σ2 1040 0) (psh (fun k => (gp g x k, gp g y k)) k j P) → J n c_Model_isUnified (some .boolean) 16 [some (jo 1 0), none, none, some (ji (2 * ((psh (fun k => (gp g x k, gp g y k)) k j P).length : Nat))), none, none, none, none] [] σ2 (qI Q)) → J n c_Model_isUnified (some .boolean) 163 [some (jo 1 0), none, none, some (ji (2 * (P.length : Nat))), some (ji x), some (ji y), some (ji (k : Nat)), none] [] σ1 (qI Q) := by
  intro j
  induction j with
  | zero =>
    intro k P σ1 hk hP hs hst kk
    obtain ⟨hl, hz, hb, h4, h5, h6, h7, h8, h9, h10, h11, h12, h13⟩ := mT_sq40 h hs
    have l28 := mln_at hl 1028 40000 (by decide)
    refine wp_Model_isUnified_163 ⟨by omega, by omega, x0, by omega, hn, ?_⟩
    rw [h8 x x0 x1]
    refine t_partsOf (by rcases (hz x x0 x1).1 with q | q <;> omega) ?_
    rw [if_pos (by omega)]
    exact kk σ1 hs hst
  | succ j ih =>
    intro k P σ1 hk hP hs hst kk
    obtain ⟨hl, hz, hb, h4, h5, h6, h7, h8, h9, h10, h11, h12, h13⟩ := mT_sq40 h hs
    have l28 := mln_at hl 1028 40000 (by decide)
    have l29 := mln_at hl 1029 40000 (by decide)
    have l31 := mln_at hl 1031 40000 (by decide)
    have l40 := mln_at hl 1040 4000 (by decide)
    obtain ⟨f1, f2, f3⟩ := h10 x x0 x1 k (by omega)
    obtain ⟨f4, f5, f6⟩ := h10 y y0 y1 k (by rw [← he]; omega)
    refine wp_Model_isUnified_163 ⟨by omega, by omega, x0, by omega, hn, ?_⟩
    rw [h8 x x0 x1]
    refine t_partsOf (by rcases (hz x x0 x1).1 with q | q <;> omega) ?_
    have := pN_3 hz x0 x1
    rw [if_neg (by omega)]
    refine ⟨by omega, by omega, by omega, by omega, ⟨by omega, by omega⟩, by omega, by omega, by omega, by omega, fun σ2 e2 => ?_⟩
    have g29 : ra σ2 1029 0 = ra σ1 1029 0 := by rw [e2]; rfl
    have g31 : ra σ2 1031 0 = ra σ1 1031 0 := by rw [e2]; rfl
    have g28 : ∀ F, rl σ2 F 0 = rl σ1 F 0 := fun F => by rw [e2]; rfl
    rw [g29, g31]
    simp only [g28]
    refine ⟨by omega, ⟨by omega, by omega⟩, by omega, by omega, by omega, by omega, ⟨by omega, by omega⟩, by omega, by omega, by omega, by omega, fun σ3 e3 => ⟨⟨by omega, by omega⟩, ⟨by omega, by omega⟩, ?_⟩⟩
    have := ih (k + 1) ((gp g x k, gp g y k) :: P) σ3 (by omega) (by rw [List.length_cons]; omega) (by rw [e3, e2]; exact (hs.pwa 1040 0 _ _ (by decide)).pwa 1040 0 _ _ (by decide)) (by
      rw [e3, e2, f3, f6]
      exact stk2_up hst) (by rw [← psh_s]; exact kk)
    rw [List.length_cons] at this
    rw [show (2 : Int) * (P.length : Nat) + 2 = 2 * ((P.length + 1 : Nat) : Int) by omega, show ((k : Nat) : Int) + 1 = ((k + 1 : Nat) : Int) by omega]
    exact this
/-- a set of nodes that holds what stands right below its nodes -/
def eclo (g : zH) (N : Int) (β : List (Int × Int)) (K : Int → Prop) : Prop := ∀ m, K m → 0 ≤ m → m < N → (∀ k, k < pN (gh g m) → K (gp g m k)) ∧ (¬ bl β m = -1 → K (bl β m))
theorem eclo_app {K : Int → Prop} (h : eclo g N β K) : ∀ {new : List (Int × Int)}, (∀ p, p ∈ new → K p.1 ∧ K p.2) → eclo g N (new ++ β) K := by
  intro new
  induction new with
  | nil => intro _; exact h
  | cons p new ih =>
    obtain ⟨u, t⟩ := p
    intro hK m hm m0 m1
    have := ih (fun p hp => hK p (List.mem_cons_of_mem _ hp)) m hm m0 m1
    refine ⟨this.1, fun hb => ?_⟩
    by_cases q : m = u
    · rw [q, List.cons_append, bl_cons_eq]
      exact (hK (u, t) List.mem_cons_self).2
    · rw [List.cons_append, bl_cons_ne q] at hb ⊢
      exact this.2 hb
theorem eclo_sv {K : Int → Prop} (hz : zok g N) (hb : bok g N β) (ha : acy g N β) (h : eclo g N β K) : ∀ m, 0 ≤ m → m < N → K m → K (sv g N β m) := by
  refine zind hz hb ha (fun m h0 h1 hm hb0 => ?_) (fun m h0 h1 hm hb0 b0 b1 ih => ?_) (fun m h0 h1 hm ih => ?_)
  · rw [sv_id hz hb ha h0 h1 (fun _ => hb0)]; exact fun q => q
  · rw [sv_bd hz hb ha hb0]
    exact fun q => ih ((h m q h0 h1).2 hb0)
  · rw [sv_id hz hb ha h0 h1 (fun q => absurd q hm)]; exact fun q => q
/-- what is tied so far, and what is still looked at, lies among what the two come to -/
def nwk (g : zH) (N : Int) (β : List (Int × Int)) (x9 y9 : Int) (new P : List (Int × Int)) : Prop := ∀ K : Int → Prop, eclo g N β K → K x9 → K y9 → (∀ p, p ∈ new → K p.1 ∧ K p.2) ∧ ∀ p, p ∈ P → K p.1 ∧ K p.2
theorem nwk_tl {x9 y9 : Int} {new P : List (Int × Int)} {p : Int × Int} (h : nwk g N β x9 y9 new (p :: P)) : nwk g N β x9 y9 new P := fun K a b c => ⟨(h K a b c).1, fun q hq => (h K a b c).2 q (List.mem_cons_of_mem _ hq)⟩
theorem nwk_sv {x9 y9 : Int} {new P : List (Int × Int)} {a b : Int} (hz : zok g N) (hb : bok g N (new ++ β)) (ha : acy g N (new ++ β)) (h : nwk g N β x9 y9 new ((a, b) :: P)) (a0 : 0 ≤ a) (a1 : a < N) (b0 : 0 ≤ b) (b1 : b < N) : ∀ K : Int → Prop, eclo g N β K → K x9 → K y9 → K (sv g N (new ++ β) a) ∧ K (sv g N (new ++ β) b) := fun K h1 h2 h3 => by
  obtain ⟨c1, c2⟩ := h K h1 h2 h3
  have c3 := c2 (a, b) List.mem_cons_self
  have he := eclo_app h1 c1
  exact ⟨eclo_sv hz hb ha he a a0 a1 c3.1, eclo_sv hz hb ha he b b0 b1 c3.2⟩
end ZU
