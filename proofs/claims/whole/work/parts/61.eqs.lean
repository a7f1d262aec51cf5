/-! What has been made one: a row of pairs, whatever is tied to what. -/
def solE (g : zH) (N : Int) (E : List (Int × Int)) (ρ : Int → List Int) : Prop := str g N ρ ∧ peq ρ E
def rep (g : zH) (N : Int) (β E : List (Int × Int)) : Prop := bok g N β ∧ acy g N β ∧ ∀ ρ, sol g N β ρ ↔ solE g N E ρ
section ZI
variable {g g' : zH} {N N' : Int} {β β' E : List (Int × Int)} {x y u t : Int} {ρ : Int → List Int}
theorem sol_iff : sol g N β ρ ↔ str g N ρ ∧ ∀ n, 0 ≤ n → n < N → gh g n = -1 → ¬ bl β n = -1 → ρ n = ρ (bl β n) := by
  constructor
  · intro h
    exact ⟨fun n h0 h1 => ⟨(h n h0 h1).1, (h n h0 h1).2.1⟩, fun n h0 h1 => (h n h0 h1).2.2⟩
  · rintro ⟨h1, h2⟩ n i0 i1
    exact ⟨(h1 n i0 i1).1, (h1 n i0 i1).2, h2 n i0 i1⟩
theorem str_cong (ha : agr g g' N) : str g N ρ ↔ str g' N ρ := by
  constructor
  · intro h n h0 h1
    obtain ⟨b1, b2⟩ := ha n h0 h1
    rw [b1]
    refine ⟨(h n h0 h1).1, fun hu => ?_⟩
    rw [(h n h0 h1).2 hu]
    exact congrArg _ (flat_congr (fun k _ => by rw [b2 k]))
  · intro h n h0 h1
    obtain ⟨b1, b2⟩ := ha n h0 h1
    have h3 := h n h0 h1
    rw [b1] at h3
    refine ⟨h3.1, fun hu => ?_⟩
    rw [h3.2 hu]
    exact congrArg _ (flat_congr (fun k _ => by rw [b2 k]))
theorem bok_ext (ha : agr g g' N) (hN : N ≤ N') : ∀ {β : List (Int × Int)}, bok g N β → bok g' N' β := by
  intro β
  induction β with
  | nil => intro _; trivial
  | cons a β ih =>
    obtain ⟨u, t⟩ := a
    rintro ⟨⟨a1, a2, a3, a4, a5, a6⟩, h3⟩
    exact ⟨⟨a1, by omega, by rw [(ha u a1 a2).1]; exact a3, a4, by omega, a6⟩, ih h3⟩
theorem acy_ext (ha : agr g g' N) (hN : N ≤ N') (hz : zok g N) (hz' : zok g' N') (hb : bok g N β) (h : acy g N β) : acy g' N' β := by
  obtain ⟨r, hr, hn⟩ := acy_norm hz hb h
  refine ⟨fun n => if n < N then r n else N.toNat + (n - N).toNat, fun n h0 h1 => ⟨fun k hk => ?_, fun hu hf => ?_⟩⟩
  · have p := (hz' n h0 h1).2 k hk
    dsimp only
    by_cases q : n < N
    · rw [if_pos q, if_pos (by omega)]
      obtain ⟨b1, b2⟩ := ha n h0 q
      rw [b1] at hk
      rw [b2 k]
      exact (hr n h0 q).1 k hk
    · rw [if_neg q]
      by_cases q2 : gp g' n k < N
      · rw [if_pos q2]
        have := hn _ p.1 q2
        omega
      · rw [if_neg q2]
        omega
  · obtain ⟨c0, c1, c2, c3, c4⟩ := bok_at hb hf
    dsimp only
    rw [if_pos c1, if_pos c4]
    exact (hr n c0 c1).2 c2 hf
theorem rep_ext (ha : agr g g' N) (hN : N ≤ N') (hz : zok g N) (hz' : zok g' N') (hE : ∀ p, p ∈ E → (0 ≤ p.1 ∧ p.1 < N) ∧ 0 ≤ p.2 ∧ p.2 < N) (h : rep g N β E) : rep g' N' β E := by
  obtain ⟨h1, h2, h3⟩ := h
  refine ⟨bok_ext ha hN h1, acy_ext ha hN hz hz' h1 h2, fun ρ => ?_⟩
  have hlow : str g' N' ρ → str g N ρ := fun q => str_low ha hN hz q
  constructor
  · intro q
    rw [sol_iff] at q
    refine ⟨q.1, ((h3 ρ).mp (sol_iff.mpr ⟨hlow q.1, fun n h0 i1 hu hf => q.2 n h0 (by omega) (by rw [(ha n h0 i1).1]; exact hu) hf⟩)).2⟩
  · rintro ⟨q1, q2⟩
    refine sol_iff.mpr ⟨q1, fun n h0 i1 hu hf => ?_⟩
    obtain ⟨c0, c1, c2, c3, c4⟩ := bok_at h1 hf
    exact (sol_iff.mp ((h3 ρ).mpr ⟨hlow q1, q2⟩)).2 n c0 c1 c2 hf
/-- back to fewer nodes -/
theorem rep_low (ha : agr g g' N) (hN : N ≤ N') (hz : zok g N) (hbN : bok g N β) (h : acy g' N' β) : acy g N β := by
  obtain ⟨r, hr⟩ := h
  refine ⟨r, fun n h0 h1 => ⟨fun k hk => ?_, fun hu hf => ?_⟩⟩
  · obtain ⟨b1, b2⟩ := ha n h0 h1
    rw [← b2 k]
    exact (hr n h0 (by omega)).1 k (by rw [b1]; exact hk)
  · exact (hr n h0 (by omega)).2 (by rw [(ha n h0 h1).1]; exact hu) hf
theorem rep_put {Rs new : List (Int × Int)} (h : rep g N β E) (hb2 : bok g N (new ++ β)) (ha2 : acy g N (new ++ β)) (hs : ∀ ρ, sol g N (new ++ β) ρ ↔ sol g N β ρ ∧ ρ x = ρ y) : rep g N (new ++ β) ((x, y) :: E) := by
  refine ⟨hb2, ha2, fun ρ => ?_⟩
  rw [hs ρ, h.2.2 ρ]
  constructor
  · rintro ⟨⟨q1, q2⟩, q3⟩
    exact ⟨q1, peq_cons.mpr ⟨q3, q2⟩⟩
  · rintro ⟨q1, q2⟩
    obtain ⟨q3, q4⟩ := peq_cons.mp q2
    exact ⟨⟨q1, q4⟩, q3⟩
theorem ex_row (hz : zok g N) (h1 : rep g N β E) (h2 : rep g N β' E) (x0 : 0 ≤ x) (x1 : x < N) : cno [] (ex g N β' x) = cno [] (ex g N β x) := by
  have s1 := ex_sol hz h1.1 h1.2.1
  have s2 := ex_sol hz h2.1 h2.2.1
  have s1' : sol g N β' (ex g N β) := (h2.2.2 _).mpr ((h1.2.2 _).mp s1)
  have s2' : sol g N β (ex g N β') := (h1.2.2 _).mpr ((h2.2.2 _).mp s2)
  have e1 := ex_pr hz h1.1 h1.2.1 s2' x x0 x1
  have e2 := ex_pr hz h2.1 h2.2.1 s1' x x0 x1
  have key : ∀ (β1 β2 : List (Int × Int)), rep g N β1 E → sol g N β1 (ex g N β2) → (∀ m, 0 ≤ m → m < N → 1 ≤ (ex g N β2 m).length) → ∀ l : List Int, (∀ v, v ∈ l → v ∈ ex g N β1 x) → sbt (fun v => ex g N β2 (-1 - v)) l = sbt (fun v => if 0 ≤ -1 - v ∧ -1 - v < N then ex g N β2 (-1 - v) else [0]) l := by
    intro β1 β2 r1 _ _ l
    induction l with
    | nil => intro _; rfl
    | cons a l ih =>
      intro hl
      have ih := ih (fun v hv => hl v (List.mem_cons_of_mem _ hv))
      by_cases q : a < 0
      · have := (ex_let hz r1.1 r1.2.1 x x0 x1 a (hl a List.mem_cons_self)).2 q
        rw [sbt_cons_v q, sbt_cons_v q, if_pos ⟨this.1, this.2.1⟩, ih]
      · rw [sbt_cons_c q, sbt_cons_c q, ih]
  have n1 : ∀ m, 0 ≤ m → m < N → 1 ≤ (ex g N β m).length := fun m m0 m1 => ex_ne hz h1.1 h1.2.1 m0 m1
  have n2 : ∀ m, 0 ≤ m → m < N → 1 ≤ (ex g N β' m).length := fun m m0 m1 => ex_ne hz h2.1 h2.2.1 m0 m1
  rw [key β β' h1 s2' n2 _ (fun _ h => h)] at e1
  rw [key β' β h2 s1' n1 _ (fun _ h => h)] at e2
  refine cno_same (θ := fun v => if 0 ≤ -1 - v ∧ -1 - v < N then ex g N β' (-1 - v) else [0]) (θ' := fun v => if 0 ≤ -1 - v ∧ -1 - v < N then ex g N β (-1 - v) else [0]) (fun v _ => ?_) (fun v _ => ?_) e1 e2
  · by_cases q : 0 ≤ -1 - v ∧ -1 - v < N
    · rw [if_pos q]; exact n2 _ q.1 q.2
    · rw [if_neg q]; exact Nat.le_refl _
  · by_cases q : 0 ≤ -1 - v ∧ -1 - v < N
    · rw [if_pos q]; exact n1 _ q.1 q.2
    · rw [if_neg q]; exact Nat.le_refl _
theorem ex_ext (ha : agr g g' N) (hN : N ≤ N') (hz : zok g N) (hz' : zok g' N') (hb : bok g N β) (h : acy g N β) : ∀ x, 0 ≤ x → x < N → ex g' N' β x = ex g N β x := by
  have hb' := bok_ext ha hN hb
  have h' := acy_ext ha hN hz hz' hb h
  refine zind hz hb h (fun n h0 h1 hu hf => ?_) (fun n h0 h1 hu hf b0 b1 ih => ?_) (fun n h0 h1 hu ih => ?_)
  · rw [ex_un hz hb h h0 h1 hu hf, ex_un hz' hb' h' h0 (by omega) (by rw [(ha n h0 h1).1]; exact hu) hf]
  · rw [ex_bd hz hb h hf, ex_bd hz' hb' h' hf]; exact ih
  · rw [ex_con hz hb h h0 h1 hu, ex_con hz' hb' h' h0 (by omega) (by rw [(ha n h0 h1).1]; exact hu), (ha n h0 h1).1]
    refine congrArg _ (flat_congr (fun k hk => ?_))
    rw [(ha n h0 h1).2 k]
    have := (hz n h0 h1).2 k hk
    exact ih k hk this.1 (by omega)
/-- a set of nodes that holds all that its nodes come to -/
def clo (g : zH) (N : Int) (β : List (Int × Int)) (K : Int → Prop) : Prop := ∀ m, K m → 0 ≤ m → m < N → ∀ k, k < pN (gh g m) → K (sv g N β (gp g m k))
/-- all that a node comes to -/
theorem sml_ex (hz : zok g N) (hb : bok g N β) (h : acy g N β) : ∀ x, 0 ≤ x → x < N → ∃ Rs, sv g N β x ∈ Rs ∧ sml g N β Rs ∧ Rs.length ≤ (ex g N β x).length ∧ ∀ K, clo g N β K → K (sv g N β x) → ∀ m, m ∈ Rs → K m := by
  refine zind hz hb h (fun n h0 h1 hu hf => ?_) (fun n h0 h1 hu hf b0 b1 ih => ?_) (fun n h0 h1 hu ih => ?_)
  · rw [sv_id hz hb h h0 h1 (fun _ => hf), ex_un hz hb h h0 h1 hu hf]
    refine ⟨[n], List.mem_cons_self, fun m hm => ?_, Nat.le_refl _, fun K _ hK m hm => ?_⟩
    · have : m = n := by simpa using hm
      rw [this]
      exact ⟨h0, h1, fun k hk => by rw [hu] at hk; exact absurd hk (Nat.not_lt_zero k)⟩
    · have : m = n := by simpa using hm
      rw [this]; exact hK
  · rw [sv_bd hz hb h hf, ex_bd hz hb h hf]; exact ih
  · rw [sv_id hz hb h h0 h1 (fun q => absurd q hu)]
    have key : ∀ j, j ≤ pN (gh g n) → ∃ Rs, (∀ k, k < j → sv g N β (gp g n k) ∈ Rs) ∧ sml g N β Rs ∧ Rs.length ≤ ((List.range' 0 j).map (fun k => (ex g N β (gp g n k)).length)).sum ∧ ∀ K, clo g N β K → K n → ∀ m, m ∈ Rs → K m := by
      intro j
      induction j with
      | zero => intro _; exact ⟨[], fun k hk => absurd hk (Nat.not_lt_zero k), fun m hm => (by cases hm), Nat.zero_le _, fun _ _ _ m hm => (by cases hm)⟩
      | succ j ihj =>
        intro hj
        obtain ⟨Rs, r1, r2, r3, r4⟩ := ihj (by omega)
        have p := (hz n h0 h1).2 j (by omega)
        obtain ⟨Rt, s1, s2, s3, s4⟩ := ih j (by omega) p.1 (by omega)
        refine ⟨Rs ++ Rt, fun k hk => ?_, fun m hm => ?_, ?_, fun K hK hn m hm => ?_⟩
        · by_cases q : k = j
          · rw [q]; exact List.mem_append_right _ s1
          · exact List.mem_append_left _ (r1 k (by omega))
        · rcases List.mem_append.mp hm with w | w
          · obtain ⟨m0, m1, m2⟩ := r2 m w
            exact ⟨m0, m1, fun k hk => List.mem_append_left _ (m2 k hk)⟩
          · obtain ⟨m0, m1, m2⟩ := s2 m w
            exact ⟨m0, m1, fun k hk => List.mem_append_right _ (m2 k hk)⟩
        · rw [List.length_append, List.range'_concat, List.map_append, List.sum_append]
          simp
          omega
        · rcases List.mem_append.mp hm with w | w
          · exact r4 K hK hn m w
          · exact s4 K hK (hK n hn h0 h1 j (by omega)) m w
    obtain ⟨Rs, r1, r2, r3, r4⟩ := key (pN (gh g n)) (Nat.le_refl _)
    refine ⟨n :: Rs, List.mem_cons_self, fun m hm => ?_, ?_, fun K hK hn m hm => ?_⟩
    · rcases List.mem_cons.mp hm with w | w
      · rw [w]
        exact ⟨h0, h1, fun k hk => List.mem_cons_of_mem _ (r1 k hk)⟩
      · obtain ⟨m0, m1, m2⟩ := r2 m w
        exact ⟨m0, m1, fun k hk => List.mem_cons_of_mem _ (m2 k hk)⟩
    · rw [List.length_cons, ex_clen hz hb h h0 h1 hu]
      omega
    · rcases List.mem_cons.mp hm with w | w
      · rw [w]; exact hn
      · exact r4 K hK hn m w
theorem sml_app {Rs Rt : List Int} (r : sml g N β Rs) (s : sml g N β Rt) : sml g N β (Rs ++ Rt) := fun m hm => by
  rcases List.mem_append.mp hm with w | w
  · obtain ⟨m0, m1, m2⟩ := r m w
    exact ⟨m0, m1, fun k hk => List.mem_append_left _ (m2 k hk)⟩
  · obtain ⟨m0, m1, m2⟩ := s m w
    exact ⟨m0, m1, fun k hk => List.mem_append_right _ (m2 k hk)⟩
end ZI
