/-! The best ones are tried: the reference. -/
section ZTaa
variable {n : Nat} {σ0 σb σ σ1 : jS} {β : List (Int × Int)} {x k cl cu cds lvl sc fl fl' unt : Int} {P : zP} {s0 s s1 : zS} {path : List (Int × Int)} {C : List Int} {i i' : Nat} {one : Option (Int × List zI × List (Int × Int))} {another : Option Int}
/-- the next one, one that failed more -/
theorem fInv_up {l : List (Nat × Int)} (h : fInv P σ0 σ s0 s path β x cl cu cds lvl sc C fl i one another) (e : sq l σ σ1) (hl : l = [(1080, 0)] ∨ l = oF ∨ l = [(1105, 0), (1078, 0)]) (hK : frK ((path.length : Nat) : Int) σ σ1) (hB : mB σ1 P s1 path) (hs : s1.1 = s.1) (hM : sM s1 = sM s) (hA : sA s1 = sA s) (hok : nOk s1) (h80 : ra σ1 1080 0 ((path.length : Nat) : Int) = ((i' : Nat) : Int)) (h78 : ra σ1 1078 0 ((path.length : Nat) : Int) = fl') (hi : i ≤ i') (hf : 0 ≤ fl') : fInv P σ0 σ1 s0 s1 path β x cl cu cds lvl sc C fl' i' one another := by
  obtain ⟨⟨j1, j1b, j1c, j1d⟩, jB, ⟨j3, j3b⟩, ⟨j4, j4b, j4c, j4d, j4e, j4f⟩, ⟨j5, j5b, j5c, j5d⟩, ⟨j6, j6b, j6c, j6d, j6e, j6f, j6g⟩, ⟨j7, j7b⟩, j8, j9, j10⟩ := h
  have eG : hG s1 = hG s := by unfold hG; rw [hs]
  have eN : hN s1 = hN s := by unfold hN; rw [hs]
  have eE : hE s1 = hE s := by unfold hE; rw [hs]
  have nF : ∀ F, ¬ F = 1080 → ¬ F = 1105 → ¬ F = 1078 → oF.contains (F, 0) = false → l.contains (F, 0) = false := fun F a b c d => by
    rcases hl with w | w | w
    · rw [w]; simp [a]
    · rw [w]; exact d
    · rw [w]; simp [b, c]
  have la : (l.all (fun p => agF.contains p)) = true := by rcases hl with w | w | w <;> rw [w] <;> decide
  have nK : ndK (rs σ0 1064 0) σ σ1 := e.ndK (by rcases hl with w | w | w <;> rw [w] <;> decide)
  have nK2 : ndK (rs σ 1064 0) σ σ1 := e.ndK (by rcases hl with w | w | w <;> rw [w] <;> decide)
  have ra0 : ∀ (F : Nat) (z : Int), ¬ F = 1080 → ¬ F = 1105 → ¬ F = 1078 → oF.contains (F, 0) = false → ra σ1 F 0 z = ra σ F 0 z := fun F z a b c d => e.nra F 0 z (nF F a b c d)
  have rs0 : ∀ (F : Nat), ¬ F = 1080 → ¬ F = 1105 → ¬ F = 1078 → oF.contains (F, 0) = false → rs σ1 F 0 = rs σ F 0 := fun F a b c d => e.nrs F 0 (nF F a b c d)
  refine ⟨⟨j1.tr (e.mo la), j1b.tr hK, j1c.tr nK, j1d.tr (kpp.of (N := hN s0) e (nF 1029 (by decide) (by decide) (by decide) (by decide))) (Int.le_refl _)⟩, hB, ⟨by rw [rs0 1098 (by decide) (by decide) (by decide) (by decide)]; exact j3, by rw [rs0 1101 (by decide) (by decide) (by decide) (by decide)]; exact j3b⟩, ⟨?_, ?_, ?_, ?_, hok, by omega⟩, ⟨?_, ?_, ?_, ?_⟩, ⟨?_, ?_, ?_, h78, h80, ?_, ?_⟩, ⟨?_, ?_⟩, fun j y0 y1 => ?_, ?_, hf⟩
  · rw [eG, eN]
    exact j4.sq e (by rcases hl with w | w | w <;> rw [w] <;> decide)
  · rw [eG, eN, eE]; exact j4b
  · exact ⟨by rw [eG, eN]; exact j4c.1, by rw [eN]; exact j4c.2.1, by rw [eN, eE]; exact j4c.2.2.1, hok.2.1⟩
  · obtain ⟨g1, g2, g3, g4, g5⟩ := j4d
    unfold bI
    rw [eG, eN, eE, hA]
    exact ⟨g1, g2, g3, g4, g5⟩
  · rw [ra0 1071 _ (by decide) (by decide) (by decide) (by decide)]; exact j5
  · rw [ra0 1072 _ (by decide) (by decide) (by decide) (by decide)]; exact j5b
  · rw [ra0 1073 _ (by decide) (by decide) (by decide) (by decide)]; exact j5c
  · rw [ra0 1093 _ (by decide) (by decide) (by decide) (by decide)]; exact j5d
  · rw [ra0 1074 _ (by decide) (by decide) (by decide) (by decide)]; exact j6
  · rw [ra0 1075 _ (by decide) (by decide) (by decide) (by decide)]; exact j6b
  · rw [ra0 1077 _ (by decide) (by decide) (by decide) (by decide)]; exact j6c
  · rw [ra0 1089 _ (by decide) (by decide) (by decide) (by decide)]; exact j6f
  · rw [ra0 1089 _ (by decide) (by decide) (by decide) (by decide)]; omega
  · rw [ra0 1076 _ (by decide) (by decide) (by decide) (by decide)]; exact j7
  · rw [ra0 1079 _ (by decide) (by decide) (by decide) (by decide)]; exact j7b
  · rw [ra0 1095 _ (by decide) (by decide) (by decide) (by decide), ra0 1096 _ (by decide) (by decide) (by decide) (by decide)]
    exact j8 j y0 y1
  · cases one with
    | none =>
      obtain ⟨o1, o2, o3, o4, o5⟩ := j9
      exact ⟨o1, by rw [ra0 1089 _ (by decide) (by decide) (by decide) (by decide)]; exact o2, by rw [rs0 1097 (by decide) (by decide) (by decide) (by decide)]; exact o3, by rw [rs0 1064 (by decide) (by decide) (by decide) (by decide)]; exact o4, by rw [rs0 1034 (by decide) (by decide) (by decide) (by decide)]; exact o5⟩
    | some o =>
      obtain ⟨o1, o2, o3, o4, o5, o6, o7, new, o8, o9, o10, o11, o12⟩ := j9
      have ek : kfL σ1 1092 ((path.length : Nat) : Int) (tN P.1 o.1).toNat = kfL σ 1092 ((path.length : Nat) : Int) (tN P.1 o.1).toNat := by
        unfold kfL
        exact List.map_congr_left (fun j _ => ra0 1092 _ (by decide) (by decide) (by decide) (by decide))
      unfold oneM
      dsimp only
      rw [ra0 1089 _ (by decide) (by decide) (by decide) (by decide), ra0 1090 _ (by decide) (by decide) (by decide) (by decide), ra0 1091 _ (by decide) (by decide) (by decide) (by decide), ra0 1094 _ (by decide) (by decide) (by decide) (by decide), rs0 1064 (by decide) (by decide) (by decide) (by decide), rs0 1034 (by decide) (by decide) (by decide) (by decide), rs0 1097 (by decide) (by decide) (by decide) (by decide), ek, hM, hA, eG, eN]
      refine ⟨o1, o2, o3, nRs_K nK2 o4, o5, o6, o7, new, o8, o9, o10, fun j hj => ?_, o12⟩
      rw [ra0 1095 _ (by decide) (by decide) (by decide) (by decide), ra0 1096 _ (by decide) (by decide) (by decide) (by decide)]
      exact o11 j hj
/-- back at the mark, one that failed more -/
theorem fInv_bk (h : fInv P σ0 σ s0 s path β x cl cu cds lvl sc C fl i one another) (hb : bkI P σ σ1 s s1 path β) (hg : gon s s1 1) (hok : nOk s1) (r78 : ra σ1 1078 0 ((path.length : Nat) : Int) = ra σ 1078 0 ((path.length : Nat) : Int) + 1) (r89 : ra σ1 1089 0 ((path.length : Nat) : Int) = ra σ 1089 0 ((path.length : Nat) : Int)) (r91 : ra σ1 1091 0 ((path.length : Nat) : Int) = ra σ 1091 0 ((path.length : Nat) : Int)) (hT : tok P.1) (hS97 : 0 ≤ rs σ0 1097 0) : fInv P σ0 σ1 s0 (spBack s s1) path β x cl cu cds lvl sc C (fl + 1) i one another := by
  obtain ⟨⟨j1, j1b, j1c, j1d⟩, jB, ⟨j3, j3b⟩, ⟨j4, j4b, j4c, j4d, j4e, j4f⟩, ⟨j5, j5b, j5c, j5d⟩, ⟨j6, j6b, j6c, j6d, j6e, j6f, j6g⟩, ⟨j7, j7b⟩, j8, j9, j10⟩ := h
  obtain ⟨⟨b1, b1b, b1c, b1d⟩, b2, b3, b4, ⟨b5, b5b⟩, ⟨b6, b6b⟩, b7, b8⟩ := hb
  obtain ⟨g1, g2, g3, g4, g5⟩ := j4d
  have hg12 := hg.1
  have h64 : rs σ0 1064 0 ≤ rs σ 1064 0 := by
    cases one with
    | none => have := j9.2.2.2.1; omega
    | some o => exact j9.2.2.2.2.1.1
  refine ⟨⟨j1.tr b1, j1b.tr b1b, j1c.tr (b1c.mo h64), j1d.tr b1d g2⟩, b2, b3, ⟨b4, j4b, ⟨j4c.1, j4c.2.1, j4c.2.2.1, hok.2.1⟩, ⟨g1, g2, g3, g4, ?_⟩, hok, by show sA s0 ≤ sA s1; omega⟩, ⟨?_, ?_, ?_, ?_⟩, ⟨?_, ?_, ?_, by omega, ?_, by omega, by omega⟩, ⟨?_, ?_⟩, fun j y0 y1 => ?_, ?_, by omega⟩
  · cases one with
    | none => exact g5
    | some o =>
      obtain ⟨w1, w2, w3⟩ := g5
      exact ⟨w1, by show hN s ≤ hN s0 + 60 + 120 * (sA s1 - sA s0); omega, by show (zu (hG s) (hN s) : Int) ≤ zu (hG s0) (hN s0) + 26 + 52 * (sA s1 - sA s0); omega⟩
  · rw [b5 1071 (by decide) (by decide) (by decide) (by decide)]; exact j5
  · rw [b5 1072 (by decide) (by decide) (by decide) (by decide)]; exact j5b
  · rw [b5 1073 (by decide) (by decide) (by decide) (by decide)]; exact j5c
  · rw [b5 1093 (by decide) (by decide) (by decide) (by decide)]; exact j5d
  · rw [b5 1074 (by decide) (by decide) (by decide) (by decide)]; exact j6
  · rw [b5 1075 (by decide) (by decide) (by decide) (by decide)]; exact j6b
  · rw [b5 1077 (by decide) (by decide) (by decide) (by decide)]; exact j6c
  · rw [b5 1080 (by decide) (by decide) (by decide) (by decide)]; exact j6e
  · rw [b5 1076 (by decide) (by decide) (by decide) (by decide)]; exact j7
  · rw [b5 1079 (by decide) (by decide) (by decide) (by decide)]; exact j7b
  · have h97 : rs σ0 1097 0 ≤ rs σ 1097 0 := by
      cases one with
      | none => have := j9.2.2.1; omega
      | some o => obtain ⟨-, -, -, -, -, -, -, new, -, -, w, -⟩ := j9; omega
    obtain ⟨a1, a2⟩ := j8 j y0 y1
    obtain ⟨a3, a4⟩ := b6b j y0 (by omega)
    exact ⟨a3.trans a1, a4.trans a2⟩
  · cases one with
    | none =>
      obtain ⟨o1, o2, o3, o4, o5⟩ := j9
      exact ⟨o1, by omega, by omega, by omega, by omega⟩
    | some o =>
      obtain ⟨o1, o2, o3, o4, o5, o6, o7, new, o8, o9, o10, o11, o12⟩ := j9
      have hrl : new.reverse.length = new.length := List.length_reverse
      refine ⟨?_, ?_, o3, ?_, ?_, ?_, ?_, new, o8, ?_, ?_, fun j hj => ?_, o12⟩
      · cases another with
        | none =>
          show ra σ1 1089 0 _ = 1
          rw [r89]; exact o1
        | some b =>
          show 2 ≤ ra σ1 1089 0 _ ∧ ra σ1 1091 0 _ = b
          rw [r89, r91]; exact o1
      · rw [b5 1090 (by decide) (by decide) (by decide) (by decide)]; exact o2
      · have hN4o := (hT.2.2.2.2.2 o.1 o3.1 o3.2).2.2.2.1
        have ek : kfL σ1 1092 ((path.length : Nat) : Int) (tN P.1 o.1).toNat = kfL σ 1092 ((path.length : Nat) : Int) (tN P.1 o.1).toNat := by
          unfold kfL
          refine List.map_congr_left (fun j hj => ?_)
          have := List.mem_range.mp hj
          exact b5b _ (by omega) (by omega)
        rw [ek, b8]
        exact nRs_K b1c o4
      · rw [b8]; show rs σ0 1064 0 ≤ rs σ 1064 0 ∧ rs σ 1064 0 ≤ rs σ0 1064 0 + (sA s1 - sA s0); omega
      · rw [b7]
        show rs σ 1034 0 ≤ rs σ0 1034 0 + 60 + 120 * (sA s1 - sA s0)
        omega
      · obtain ⟨M', hM'⟩ := hg.2.2.2.2.2.2.2.2.2.2
        have hb := jB.2.2.2.2.2.1.1
        have hea : expT (sM s1) o.2.1 = expT (sM s) o.2.1 := by
          rw [hM']
          exact expT_app (fun m hm => by
            have := nRs_inr o4 m hm
            omega)
        show (expT (sM s1) o.2.1).length + 1 ≤ 200
        rw [hea]; exact o7
      · rw [b5 1094 (by decide) (by decide) (by decide) (by decide)]; exact o9
      · rw [b6]; exact o10
      · obtain ⟨a3, a4⟩ := b6b (rs σ0 1097 0 + ((j : Nat) : Int)) (by omega) (by omega)
        rw [a3, a4]; exact o11 j hj
end ZTaa
