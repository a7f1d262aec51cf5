/-! A goal is left: the reference. -/
def lvF : List (Nat × Int) := (1097, 0) :: (1098, 0) :: (1101, 0) :: rmQ
section ZZa
variable {n : Nat} {σ0 σ σ1 : jS} {β : List (Int × Int)} {x cl cu node : Int} {P : zP} {s0 s R1 : zS} {path : List (Int × Int)} {r : List Int} {tr : Option (List zI)}
set_option maxRecDepth 8000 in
theorem t_leave {Q : jS → Prop} (hn : 5 ≤ n) (hd : path.length < 20) (hI : lvI P σ0 σ s0 R1 path β x cl cu node tr) (hG0 : hG s0 = hG s) (hN0 : hN s0 = hN s) (hA0 : sA s0 = sA s + 1) (hcl : cl = if clsd r = true then 1 else 0) (hcu : cu = sC s) (hro : clsd r = true → rowE (hG R1) (hN R1) (hE R1) x = r) (hrl : r.length ≤ 100) (x0 : 0 ≤ x) (x1 : x < hN s) (hS97 : 0 ≤ rs σ0 1097 0) (htr : ∀ t, tr = some t → ∀ z : zN, .inl z ∈ t → 0 ≤ nGl z ∧ nGl z < hN R1)
    (hq : ∀ σ', mPost P σ0 σ' s path β x (spKeep P r s (R1, 0, tr, noQ)) → Q σ') : TrV n i_Model_leave [jo 1 0, ji ((path.length : Nat) : Int), ji node] σ Q := by
  obtain ⟨⟨j1, j1b, j1c, j1d⟩, jB, ⟨j3, j3b⟩, j8, ⟨j5, j5b, j5c, j5d⟩, ⟨j34, j64⟩, ⟨g3, g2⟩, ⟨hok, hsA⟩, new, hH, hrep, hno, hso⟩ := hI
  rw [hN0] at j1d g2 g3
  rw [hG0] at g3
  have hzk := hH.2.1
  have hA200 := hok.2.1
  have hlv := jB.2.2.2.2.2.2.2.1
  have l93 := mln_at jB.1 1093 21 (by decide)
  have l72 := mln_at jB.1 1072 21 (by decide)
  have l73 := mln_at jB.1 1073 21 (by decide)
  -- what is left, whatever is remembered
  have post : ∀ (M' : zM) (tr' : Option (List zI)) (σ' : jS), sq lvF σ σ' → ndK 8420 σ σ' → rs σ' 1064 0 = rs σ 1064 0 → (rs σ' 1097 0 = rs σ0 1097 0 ∧ rs σ' 1098 0 = ((path.length : Nat) : Int) ∧ rs σ' 1101 0 = 1) → mMem σ' M' → (tr' = none → rs σ' 1102 0 = -1) → (∀ t', tr' = some t' → (0 ≤ rs σ' 1102 0 ∧ nRs (rs σ' 1064 0) σ' [rs σ' 1102 0] t') ∧ (expT M' t').length ≤ 200 ∧ ¬ tr = none) → mPost P σ0 σ' s path β x ((R1.1, M', R1.2.2), 0, tr', noQ) := by
    intro M' tr' σ' e nd e64 ⟨v97, v98, v101⟩ hM hn1 hs1
    obtain ⟨z1, z2, z3, z4, z5, z6, z7, z8, z9⟩ := jB
    refine ⟨⟨j1.tr (e.mo (by decide)), j1b.tr (e.frK (by decide)), j1c.tr (nd.mo (by omega)), j1d.tr (kpp.of (N := hN s) e (by decide)) (Int.le_refl _)⟩, ⟨z1.sq e, z2.sq e (by decide), ?_, ?_, ?_, hM, ?_, ?_, ?_⟩, ⟨v98, v101⟩, ⟨v97, fun j y0 y1 => ?_⟩, ⟨?_, ?_⟩, ⟨g3, g2⟩, new, hH.sq e (by decide), hrep, hn1, fun t' ht' => ?_⟩
    · rw [e.nrs 1015 0 (by decide), e.nrs 1016 0 (by decide), e.nrs 1108 0 (by decide), e.nrs 1100 0 (by decide)]; exact z3
    · rw [e.nrs 1103 0 (by decide), e.nrs 1104 0 (by decide), e.nrs 1105 0 (by decide), e.nrs 1106 0 (by decide), e.nrs 1107 0 (by decide)]; exact z4
    · rw [e.nraf 1081 0 (by decide), e.nraf 1071 0 (by decide)]; exact z5
    · rw [e.nrs 1099 0 (by decide)]; exact z7
    · rw [e64]; exact z8
    · omega
    · rw [e.nra 1095 0 _ (by decide), e.nra 1096 0 _ (by decide)]; exact j8 j y0 y1
    · rw [e.nrs 1034 0 (by decide)]; show rs σ 1034 0 ≤ rs σ0 1034 0 + 120 * (sA R1 - sA s); omega
    · rw [e64]; show rs σ0 1064 0 ≤ rs σ 1064 0 ∧ rs σ 1064 0 ≤ rs σ0 1064 0 + (sA R1 - sA s); omega
    · obtain ⟨a1, a2, a3⟩ := hs1 t' ht'
      cases ht : tr with
      | none => exact absurd ht a3
      | some t =>
        have hK := (hso t ht).2.1
        rw [hG0, hN0] at hK
        exact ⟨a1, hK, a2⟩
  refine wp_Model_leave ⟨by omega, by omega, by omega, by omega, fun s5 e5 => ?_⟩
  rw [j5d] at e5
  have f5 : sq lvF σ s5 := by rw [e5]; exact (sq.rf _ σ).pws 1097 0 _ (by decide)
  have b5 : sq [(1097, 0)] σ s5 := by rw [e5]; exact (sq.rf _ σ).pws 1097 0 _ (by decide)
  have r5 : rs s5 1097 0 = rs σ0 1097 0 := by rw [e5, rs_ws, if_pos ⟨rfl, rfl⟩]
  clear e5
  rw [b5.nrs 1098 0 (by decide), j3]
  refine ⟨⟨by omega, by omega⟩, fun s7 e7 s8 e8 s9 e9 => ?_⟩
  have b7 : sq [(1098, 0)] s5 s7 := by rw [e7]; exact (sq.rf _ s5).pws 1098 0 _ (by decide)
  have r7 : rs s7 1098 0 = ((path.length : Nat) : Int) := by rw [e7, rs_ws, if_pos ⟨rfl, rfl⟩]; omega
  clear e7
  have b8 : sq [(1101, 0)] s7 s8 := by rw [e8]; exact (sq.rf _ s7).pws 1101 0 _ (by decide)
  have r8 : rs s8 1101 0 = 1 := by rw [e8, rs_ws, if_pos ⟨rfl, rfl⟩]
  clear e8
  have b9 : sq [(1102, 0)] s8 s9 := by rw [e9]; exact (sq.rf _ s8).pws 1102 0 _ (by decide)
  have r9 : rs s9 1102 0 = node := by rw [e9, rs_ws, if_pos ⟨rfl, rfl⟩]
  clear e9
  have e : sq [(1097, 0), (1098, 0), (1101, 0), (1102, 0)] σ s9 := (((b5.mo (by decide)).tr (b7.mo (by decide))).tr (b8.mo (by decide))).tr (b9.mo (by decide))
  have v97 : rs s9 1097 0 = rs σ0 1097 0 := by rw [b9.nrs 1097 0 (by decide), b8.nrs 1097 0 (by decide), b7.nrs 1097 0 (by decide)]; exact r5
  have v98 : rs s9 1098 0 = ((path.length : Nat) : Int) := by rw [b9.nrs 1098 0 (by decide), b8.nrs 1098 0 (by decide)]; exact r7
  have v101 : rs s9 1101 0 = 1 := by rw [b9.nrs 1101 0 (by decide)]; exact r8
  have e64 : rs s9 1064 0 = rs σ 1064 0 := e.nrs 1064 0 (by decide)
  have nd9 : ndK 8420 σ s9 := e.ndK (by decide)
  have hM9 : mMem s9 (sM R1) := jB.2.2.2.2.2.1.K nd9 (by decide) (e.nrs 1063 0 (by decide)) (e.nrs 1065 0 (by decide)) (e.nrs 1070 0 (by decide))
  -- not remembered
  have plain : ¬ ((P.2.2.2.2 && clsd r) = true ∧ sC R1 = sC s ∧ (sM R1).length < 40) → Q s9 := fun hne => by
    refine hq s9 ?_
    unfold spKeep
    rw [if_neg (fun w => hne ⟨w.1, w.2.2.1, w.2.2.2⟩)]
    refine post (sM R1) tr s9 (e.mo (by decide)) nd9 e64 ⟨v97, v98, v101⟩ hM9 (fun w => by rw [r9]; exact hno w) (fun t' ht' => ?_)
    obtain ⟨⟨a1, a2⟩, -, a3, -⟩ := hso t' ht'
    rw [r9, e64]
    exact ⟨⟨a1, nRs_K (nd9.mo (by omega)) a2⟩, a3, by rw [ht']; exact fun w => by cases w⟩
  obtain ⟨z1, z2, ⟨z3a, z3b, z3c, z3d⟩, ⟨z4, z4b, z4c, z4d, z4e⟩, -⟩ := jB
  rw [e.nrs 1100 0 (by decide), z3d]
  by_cases qr : P.2.2.2.2 = true
  · rw [if_pos qr, if_neg (by decide), e.nrl 1072 0, l72, e.nra 1072 0 _ (by decide), j5b]
    refine ⟨by omega, by omega, ?_⟩
    by_cases qc : clsd r = true
    · rw [if_pos qc] at hcl
      rw [if_neg (by omega), e.nrl 1073 0, l73, e.nra 1073 0 _ (by decide), j5c, e.nrs 1105 0 (by decide), z4c, hcu]
      refine ⟨by omega, by omega, ?_⟩
      by_cases qk : sC R1 = sC s
      · rw [if_neg (fun w => w qk), hM9.1]
        by_cases q40 : (sM R1).length < 40
        · rw [if_neg (by omega)]
          have hxx : x < hN R1 := by omega
          have hrow := rowE_eq (E := hE R1) hzk hrep x0 hxx
          rw [hro qc] at hrow
          have hexl : (ex (hG R1) (hN R1) (new ++ β) x).length ≤ 100 := by
            have := congrArg List.length hrow
            rw [cno_len] at this
            omega
          refine ⟨by omega, t_remember (f := rowE (hG R1) (hN R1) (hE R1)) (x := x) (sc := P.2.2.2.1) (M := sM R1) (tr := tr) (by omega) (by omega) (by omega) (hH.sq e (by decide)) hrep.2.1 (fun y y0 y1 => rowE_eq hzk hrep y0 y1) hM9 q40 (by rw [e.nrs 1108 0 (by decide)]; exact z3c) (by rw [e.nra 1071 0 _ (by decide)]; exact j5) x0 hxx hexl (by omega) (by omega) hno (fun t ht => ?_) (fun σ' f' nd' f64 hM' hn' hs' => hq σ' ?_)⟩
          · obtain ⟨⟨a1, a2⟩, -, a3, a4⟩ := hso t ht
            rw [e64]
            exact ⟨⟨a1, nRs_K (nd9.mo (by omega)) a2⟩, htr t ht, a4, a3⟩
          · have f97 : rs σ' 1097 0 = rs σ0 1097 0 := by rw [f'.nrs 1097 0 (by decide)]; exact v97
            have f98 : rs σ' 1098 0 = ((path.length : Nat) : Int) := by rw [f'.nrs 1098 0 (by decide)]; exact v98
            have f101 : rs σ' 1101 0 = 1 := by rw [f'.nrs 1101 0 (by decide)]; exact v101
            rw [← hrow] at hM'
            unfold spKeep
            rw [if_pos ⟨by rw [qr, qc]; rfl, rfl, qk, q40⟩]
            cases ht : tr with
            | none =>
              rw [ht] at hM'
              exact post _ none σ' ((e.mo (by decide)).tr (f'.mo (by decide))) (nd9.tr nd') (by rw [f64, e64]) ⟨f97, f98, f101⟩ hM' (fun _ => hn' ht) (fun t' ht' => (by cases ht'))
            | some t =>
              rw [ht] at hM'
              have ekp : t.map (kepI R1) = t.map (kpn (rowE (hG R1) (hN R1) (hE R1))) := List.map_congr_left (fun i _ => kepI_kpn R1 i)
              show mPost P σ0 σ' s path β x ((R1.1, sM R1 ++ [(P.2.2.2.1, r, expT (sM R1) (t.map (kepI R1)))], R1.2.2), 0, some (t.map (kepI R1)), noQ)
              rw [ekp]
              obtain ⟨-, -, a3, a4⟩ := hso t ht
              refine post _ (some (t.map (kpn (rowE (hG R1) (hN R1) (hE R1))))) σ' ((e.mo (by decide)).tr (f'.mo (by decide))) (nd9.tr nd') (by rw [f64, e64]) ⟨f97, f98, f101⟩ hM' (fun w => (by cases w)) (fun t' ht' => ?_)
              cases ht'
              refine ⟨hs' t ht, ?_, fun w => by rw [ht] at w; cases w⟩
              rw [expT_app (fun m hm => (mMem_root hM9 (a4 m (kpn_inr.mp hm))).1), kpn_len]
              exact a3
        · rw [if_pos (by omega)]
          exact plain (fun w => q40 w.2.2)
      · rw [if_pos qk]
        exact plain (fun w => qk w.2.1)
    · rw [if_neg qc] at hcl
      rw [if_pos hcl]
      exact plain (fun w => qc (by
        have := w.1
        rw [Bool.and_eq_true] at this
        exact this.2))
  · rw [if_neg qr, if_pos (by decide)]
    exact plain (fun w => qr (by
      have := w.1
      rw [Bool.and_eq_true] at this
      exact this.1))
end ZZa
