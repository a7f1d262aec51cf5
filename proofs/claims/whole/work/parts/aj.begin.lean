/-! The law begins: both are made. -/
section ZAj
variable {n : Nat} {σ : jS} {L : Int}
set_option maxHeartbeats 8000000 in
set_option maxRecDepth 16000 in
theorem law_run (hn : n = 128) (hL0 : 0 ≤ L) (hL : L ≤ 3072) (K : kn [] [] [] [(12, 0), (0, 0), (1, 0), (2, 0), (3, 0), (4, 0), (5, 0), (6, 0), (7, 0), (8, 0), (9, 0), (10, 0), (11, 0)] 2 0 0 1 0 L σ) : J n ax_cL (some .boolean) 0 [some (ja 800000 0), none, none, none] [] σ (qI lwR) := by
  refine wp_law ?_
  rw [K.k (c := 12) (v := 0) (by decide +kernel)]
  refine ⟨by decide, by decide, ?_⟩
  intro s e
  replace K := K.mO (o := 0) e (by decide +kernel) (by decide +kernel)
  clear e
  refine ⟨by omega, ?_⟩
  refine wp_Top_init ?_
  refine ⟨by omega, ?_⟩
  refine ⟨by omega, ?_⟩
  rw [K.k (c := 8) (v := 0) (by decide +kernel)]
  refine ⟨by decide, by decide, ?_⟩
  intro s e
  replace K := K.mO (o := 0) e (by decide +kernel) (by decide +kernel)
  clear e
  refine wp_Tape_init ?_
  refine ⟨by omega, ?_⟩
  refine ⟨by omega, ?_⟩
  intro s e
  refine ⟨K.neg e (by decide) (by decide +kernel) (by decide), ?_⟩
  intro s9 e9
  replace K := K.na e e9 (by decide) (by decide +kernel) (by decide) (by decide)
  clear e e9
  intro s e
  refine ⟨K.neg e (by decide) (by decide +kernel) (by decide), ?_⟩
  intro s9 e9
  replace K := K.na e e9 (by decide) (by decide +kernel) (by decide) (by decide)
  clear e e9
  refine ⟨by decide, ?_⟩
  intro s e
  replace K := K.mW e
  clear e
  intro s e
  refine ⟨K.neg e (by decide) (by decide +kernel) (by decide), ?_⟩
  intro s9 e9
  replace K := K.na e e9 (by decide) (by decide +kernel) (by decide) (by decide)
  clear e e9
  replace K := K.dA (by decide +kernel)
  rw [K.k (c := 0) (v := 0) (by decide +kernel)]
  refine ⟨by decide, by decide, ?_⟩
  intro s e
  replace K := K.mO (o := 0) e (by decide +kernel) (by decide +kernel)
  clear e
  refine wp_Flat_init ?_
  refine ⟨by omega, ?_⟩
  refine ⟨by omega, ?_⟩
  refine ⟨by decide, by decide, ?_⟩
  intro s e
  rw [show max (12 : Int) 1 = 12 by decide] at e
  refine ⟨K.neg e (by decide) (by decide +kernel) (by decide), ?_⟩
  intro s9 e9
  replace K := K.na e e9 (by decide) (by decide +kernel) (by decide) (by decide)
  clear e e9
  refine ⟨by decide, ?_⟩
  intro s e
  replace K := K.mW e
  clear e
  rw [K.k (c := 0) (v := 1) (by decide +kernel)]
  refine ⟨by decide, by decide, ?_⟩
  intro s e
  replace K := K.mO (o := 1) e (by decide +kernel) (by decide +kernel)
  clear e
  refine wp_Flat_init ?_
  refine ⟨by omega, ?_⟩
  refine ⟨by omega, ?_⟩
  refine ⟨by decide, by decide, ?_⟩
  intro s e
  rw [show max (100 : Int) 1 = 100 by decide] at e
  refine ⟨K.neg e (by decide) (by decide +kernel) (by decide), ?_⟩
  intro s9 e9
  replace K := K.na e e9 (by decide) (by decide +kernel) (by decide) (by decide)
  clear e e9
  refine ⟨by decide, ?_⟩
  intro s e
  replace K := K.mW e
  clear e
  rw [K.k (c := 11) (v := 0) (by decide +kernel)]
  refine ⟨by decide, by decide, ?_⟩
  intro s e
  replace K := K.mO (o := 0) e (by decide +kernel) (by decide +kernel)
  clear e
  refine wp_Written_init ?_
  refine ⟨by omega, ?_⟩
  refine ⟨by omega, ?_⟩
  intro s e
  refine ⟨K.neg e (by decide) (by decide +kernel) (by decide), ?_⟩
  intro s9 e9
  replace K := K.na e e9 (by decide) (by decide +kernel) (by decide) (by decide)
  clear e e9
  intro s e
  refine ⟨K.neg e (by decide) (by decide +kernel) (by decide), ?_⟩
  intro s9 e9
  replace K := K.na e e9 (by decide) (by decide +kernel) (by decide) (by decide)
  clear e e9
  refine ⟨by decide, ?_⟩
  intro s e
  replace K := K.mW e
  clear e
  rw [K.k (c := 10) (v := 0) (by decide +kernel)]
  refine ⟨by decide, by decide, ?_⟩
  intro s e
  replace K := K.mO (o := 0) e (by decide +kernel) (by decide +kernel)
  clear e
  refine wp_Text_init ?_
  refine ⟨by omega, ?_⟩
  refine ⟨by omega, ?_⟩
  intro s e
  refine ⟨K.neg e (by decide) (by decide +kernel) (by decide), ?_⟩
  intro s9 e9
  replace K := K.na e e9 (by decide) (by decide +kernel) (by decide) (by decide)
  clear e e9
  intro s e
  refine ⟨K.neg e (by decide) (by decide +kernel) (by decide), ?_⟩
  intro s9 e9
  replace K := K.na e e9 (by decide) (by decide +kernel) (by decide) (by decide)
  clear e e9
  intro s e
  refine ⟨K.neg e (by decide) (by decide +kernel) (by decide), ?_⟩
  intro s9 e9
  replace K := K.na e e9 (by decide) (by decide +kernel) (by decide) (by decide)
  clear e e9
  intro s e
  refine ⟨K.neg e (by decide) (by decide +kernel) (by decide), ?_⟩
  intro s9 e9
  replace K := K.na e e9 (by decide) (by decide +kernel) (by decide) (by decide)
  clear e e9
  intro s e
  refine ⟨K.neg e (by decide) (by decide +kernel) (by decide), ?_⟩
  intro s9 e9
  replace K := K.na e e9 (by decide) (by decide +kernel) (by decide) (by decide)
  clear e e9
  rw [K.k (c := 4) (v := 0) (by decide +kernel)]
  refine ⟨by decide, by decide, ?_⟩
  intro s e
  replace K := K.mO (o := 0) e (by decide +kernel) (by decide +kernel)
  clear e
  refine wp_Match_init ?_
  refine ⟨by omega, ?_⟩
  refine ⟨by omega, ?_⟩
  intro s e
  refine ⟨K.neg e (by decide) (by decide +kernel) (by decide), ?_⟩
  intro s9 e9
  replace K := K.na e e9 (by decide) (by decide +kernel) (by decide) (by decide)
  clear e e9
  refine ⟨by decide, ?_⟩
  intro s e
  replace K := K.mW e
  clear e
  intro s e
  refine ⟨K.neg e (by decide) (by decide +kernel) (by decide), ?_⟩
  intro s9 e9
  replace K := K.na e e9 (by decide) (by decide +kernel) (by decide) (by decide)
  clear e e9
  replace K := K.dA (by decide +kernel)
  intro s e
  refine ⟨K.neg e (by decide) (by decide +kernel) (by decide), ?_⟩
  intro s9 e9
  replace K := K.na e e9 (by decide) (by decide +kernel) (by decide) (by decide)
  clear e e9
  replace K := K.k0 (c := 0) (o := 2) (by decide +kernel)
  refine k_textA (by omega) K (by decide +kernel) (by decide +kernel) (by decide +kernel) (by decide +kernel) (fun s K => ?_)
  refine ⟨by decide, ?_⟩
  intro s e
  replace K := K.mW e
  clear e
  rw [K.k (c := 10) (v := 1) (by decide +kernel)]
  refine ⟨by decide, by decide, ?_⟩
  intro s e
  replace K := K.mO (o := 1) e (by decide +kernel) (by decide +kernel)
  clear e
  refine wp_Text_init ?_
  refine ⟨by omega, ?_⟩
  refine ⟨by omega, ?_⟩
  intro s e
  refine ⟨K.neg e (by decide) (by decide +kernel) (by decide), ?_⟩
  intro s9 e9
  replace K := K.na e e9 (by decide) (by decide +kernel) (by decide) (by decide)
  clear e e9
  intro s e
  refine ⟨K.neg e (by decide) (by decide +kernel) (by decide), ?_⟩
  intro s9 e9
  replace K := K.na e e9 (by decide) (by decide +kernel) (by decide) (by decide)
  clear e e9
  intro s e
  refine ⟨K.neg e (by decide) (by decide +kernel) (by decide), ?_⟩
  intro s9 e9
  replace K := K.na e e9 (by decide) (by decide +kernel) (by decide) (by decide)
  clear e e9
  intro s e
  refine ⟨K.neg e (by decide) (by decide +kernel) (by decide), ?_⟩
  intro s9 e9
  replace K := K.na e e9 (by decide) (by decide +kernel) (by decide) (by decide)
  clear e e9
  intro s e
  refine ⟨K.neg e (by decide) (by decide +kernel) (by decide), ?_⟩
  intro s9 e9
  replace K := K.na e e9 (by decide) (by decide +kernel) (by decide) (by decide)
  clear e e9
  rw [K.k (c := 4) (v := 1) (by decide +kernel)]
  refine ⟨by decide, by decide, ?_⟩
  intro s e
  replace K := K.mO (o := 1) e (by decide +kernel) (by decide +kernel)
  clear e
  refine wp_Match_init ?_
  refine ⟨by omega, ?_⟩
  refine ⟨by omega, ?_⟩
  intro s e
  refine ⟨K.neg e (by decide) (by decide +kernel) (by decide), ?_⟩
  intro s9 e9
  replace K := K.na e e9 (by decide) (by decide +kernel) (by decide) (by decide)
  clear e e9
  refine ⟨by decide, ?_⟩
  intro s e
  replace K := K.mW e
  clear e
  intro s e
  refine ⟨K.neg e (by decide) (by decide +kernel) (by decide), ?_⟩
  intro s9 e9
  replace K := K.na e e9 (by decide) (by decide +kernel) (by decide) (by decide)
  clear e e9
  replace K := K.dA (by decide +kernel)
  intro s e
  refine ⟨K.neg e (by decide) (by decide +kernel) (by decide), ?_⟩
  intro s9 e9
  replace K := K.na e e9 (by decide) (by decide +kernel) (by decide) (by decide)
  clear e e9
  replace K := K.k0 (c := 0) (o := 122) (by decide +kernel)
  refine k_textB (by omega) K (by decide +kernel) (by decide +kernel) (by decide +kernel) (by decide +kernel) (fun s K => ?_)
  refine ⟨by decide, ?_⟩
  intro s e
  replace K := K.mW e
  clear e
  rw [K.k (c := 7) (v := 0) (by decide +kernel)]
  refine ⟨by decide, by decide, ?_⟩
  intro s e
  replace K := K.mO (o := 0) e (by decide +kernel) (by decide +kernel)
  clear e
  rw [K.s (F := 12005) (o := 0) (v := 0) (by decide +kernel)]
  refine wp_Search_init ?_
  refine ⟨by omega, ?_⟩
  refine ⟨by omega, ?_⟩
  rw [K.k (c := 9) (v := 0) (by decide +kernel)]
  refine ⟨by decide, by decide, ?_⟩
  intro s e
  replace K := K.mO (o := 0) e (by decide +kernel) (by decide +kernel)
  clear e
  refine wp_Terms_init ?_
  refine ⟨by omega, ?_⟩
  refine ⟨by omega, ?_⟩
  intro s e
  intro s9 e9
  replace K := K.na e e9 (by decide) (by decide +kernel) (by decide) (by decide)
  clear e e9
  intro s e
  intro s9 e9
  replace K := K.na e e9 (by decide) (by decide +kernel) (by decide) (by decide)
  clear e e9
  intro s e
  intro s9 e9
  replace K := K.na e e9 (by decide) (by decide +kernel) (by decide) (by decide)
  clear e e9
  intro s e
  intro s9 e9
  replace K := K.na e e9 (by decide) (by decide +kernel) (by decide) (by decide)
  clear e e9
  intro s e
  intro s9 e9
  replace K := K.na e e9 (by decide) (by decide +kernel) (by decide) (by decide)
  clear e e9
  intro s e
  refine ⟨K.neg e (by decide) (by decide +kernel) (by decide), ?_⟩
  intro s9 e9
  replace K := K.na e e9 (by decide) (by decide +kernel) (by decide) (by decide)
  clear e e9
  intro s e
  refine ⟨K.neg e (by decide) (by decide +kernel) (by decide), ?_⟩
  intro s9 e9
  replace K := K.na e e9 (by decide) (by decide +kernel) (by decide) (by decide)
  clear e e9
  intro s e
  refine ⟨K.neg e (by decide) (by decide +kernel) (by decide), ?_⟩
  intro s9 e9
  replace K := K.na e e9 (by decide) (by decide +kernel) (by decide) (by decide)
  clear e e9
  intro s e
  refine ⟨K.neg e (by decide) (by decide +kernel) (by decide), ?_⟩
  intro s9 e9
  replace K := K.na e e9 (by decide) (by decide +kernel) (by decide) (by decide)
  clear e e9
  refine ⟨by decide, ?_⟩
  intro s e
  replace K := K.mW e
  clear e
  rw [K.k (c := 5) (v := 0) (by decide +kernel)]
  refine ⟨by decide, by decide, ?_⟩
  intro s e
  replace K := K.mO (o := 0) e (by decide +kernel) (by decide +kernel)
  clear e
  refine wp_Memory_init ?_
  refine ⟨by omega, ?_⟩
  refine ⟨by omega, ?_⟩
  intro s e
  refine ⟨K.neg e (by decide) (by decide +kernel) (by decide), ?_⟩
  intro s9 e9
  replace K := K.na e e9 (by decide) (by decide +kernel) (by decide) (by decide)
  clear e e9
  intro s e
  refine ⟨K.neg e (by decide) (by decide +kernel) (by decide), ?_⟩
  intro s9 e9
  replace K := K.na e e9 (by decide) (by decide +kernel) (by decide) (by decide)
  clear e e9
  rw [K.k (c := 3) (v := 0) (by decide +kernel)]
  refine ⟨by decide, by decide, ?_⟩
  intro s e
  replace K := K.mO (o := 0) e (by decide +kernel) (by decide +kernel)
  clear e
  refine wp_Forest_init ?_
  refine ⟨by omega, ?_⟩
  refine ⟨by omega, ?_⟩
  rw [K.k (c := 6) (v := 0) (by decide +kernel)]
  refine ⟨by decide, by decide, ?_⟩
  intro s e
  replace K := K.mO (o := 0) e (by decide +kernel) (by decide +kernel)
  clear e
  refine wp_Nodes_init ?_
  refine ⟨by omega, ?_⟩
  refine ⟨by omega, ?_⟩
  intro s e
  intro s9 e9
  replace K := K.na e e9 (by decide) (by decide +kernel) (by decide) (by decide)
  clear e e9
  refine ⟨by decide, ?_⟩
  intro s e
  replace K := K.mW e
  clear e
  intro s e
  intro s9 e9
  replace K := K.na e e9 (by decide) (by decide +kernel) (by decide) (by decide)
  clear e e9
  refine ⟨by decide, ?_⟩
  intro s e
  replace K := K.mW e
  clear e
  intro s e
  refine ⟨K.neg e (by decide) (by decide +kernel) (by decide), ?_⟩
  intro s9 e9
  replace K := K.na e e9 (by decide) (by decide +kernel) (by decide) (by decide)
  clear e e9
  intro s e
  refine ⟨K.neg e (by decide) (by decide +kernel) (by decide), ?_⟩
  intro s9 e9
  replace K := K.na e e9 (by decide) (by decide +kernel) (by decide) (by decide)
  clear e e9
  refine ⟨by decide, ?_⟩
  intro s e
  replace K := K.mW e
  clear e
  intro s e
  refine ⟨K.neg e (by decide) (by decide +kernel) (by decide), ?_⟩
  intro s9 e9
  replace K := K.na e e9 (by decide) (by decide +kernel) (by decide) (by decide)
  clear e e9
  rw [K.k (c := 0) (v := 242) (by decide +kernel)]
  refine ⟨by decide, by decide, ?_⟩
  intro s e
  replace K := K.mO (o := 242) e (by decide +kernel) (by decide +kernel)
  clear e
  refine wp_Flat_init ?_
  refine ⟨by omega, ?_⟩
  refine ⟨by omega, ?_⟩
  refine ⟨by decide, by decide, ?_⟩
  intro s e
  rw [show max (100 : Int) 1 = 100 by decide] at e
  refine ⟨K.neg e (by decide) (by decide +kernel) (by decide), ?_⟩
  intro s9 e9
  replace K := K.na e e9 (by decide) (by decide +kernel) (by decide) (by decide)
  clear e e9
  refine ⟨by decide, ?_⟩
  intro s e
  replace K := K.mW e
  clear e
  intro s e
  replace K := K.mW e
  clear e
  intro s e
  replace K := K.mW e
  clear e
  rw [K.k (c := 6) (v := 1) (by decide +kernel)]
  refine ⟨by decide, by decide, ?_⟩
  intro s e
  replace K := K.mO (o := 1) e (by decide +kernel) (by decide +kernel)
  clear e
  refine wp_Nodes_init ?_
  refine ⟨by omega, ?_⟩
  refine ⟨by omega, ?_⟩
  intro s e
  intro s9 e9
  replace K := K.na e e9 (by decide) (by decide +kernel) (by decide) (by decide)
  clear e e9
  refine ⟨by decide, ?_⟩
  intro s e
  replace K := K.mW e
  clear e
  rw [K.k (c := 2) (v := 0) (by decide +kernel)]
  refine ⟨by decide, by decide, ?_⟩
  intro s e
  replace K := K.mO (o := 0) e (by decide +kernel) (by decide +kernel)
  clear e
  refine wp_Counts_init ?_
  refine ⟨by omega, ?_⟩
  refine ⟨by omega, ?_⟩
  intro s e
  refine ⟨K.neg e (by decide) (by decide +kernel) (by decide), ?_⟩
  intro s9 e9
  replace K := K.na e e9 (by decide) (by decide +kernel) (by decide) (by decide)
  clear e e9
  intro s e
  refine ⟨K.neg e (by decide) (by decide +kernel) (by decide), ?_⟩
  intro s9 e9
  replace K := K.na e e9 (by decide) (by decide +kernel) (by decide) (by decide)
  clear e e9
  intro s e
  refine ⟨K.neg e (by decide) (by decide +kernel) (by decide), ?_⟩
  intro s9 e9
  replace K := K.na e e9 (by decide) (by decide +kernel) (by decide) (by decide)
  clear e e9
  refine ⟨by decide, ?_⟩
  intro s e
  replace K := K.mW e
  clear e
  rw [K.k (c := 0) (v := 243) (by decide +kernel)]
  refine ⟨by decide, by decide, ?_⟩
  intro s e
  replace K := K.mO (o := 243) e (by decide +kernel) (by decide +kernel)
  clear e
  refine wp_Flat_init ?_
  refine ⟨by omega, ?_⟩
  refine ⟨by omega, ?_⟩
  refine ⟨by decide, by decide, ?_⟩
  intro s e
  rw [show max (100 : Int) 1 = 100 by decide] at e
  refine ⟨K.neg e (by decide) (by decide +kernel) (by decide), ?_⟩
  intro s9 e9
  replace K := K.na e e9 (by decide) (by decide +kernel) (by decide) (by decide)
  clear e e9
  refine ⟨by decide, ?_⟩
  intro s e
  replace K := K.mW e
  clear e
  rw [K.k (c := 0) (v := 244) (by decide +kernel)]
  refine ⟨by decide, by decide, ?_⟩
  intro s e
  replace K := K.mO (o := 244) e (by decide +kernel) (by decide +kernel)
  clear e
  refine wp_Flat_init ?_
  refine ⟨by omega, ?_⟩
  refine ⟨by omega, ?_⟩
  refine ⟨by decide, by decide, ?_⟩
  intro s e
  rw [show max (100 : Int) 1 = 100 by decide] at e
  refine ⟨K.neg e (by decide) (by decide +kernel) (by decide), ?_⟩
  intro s9 e9
  replace K := K.na e e9 (by decide) (by decide +kernel) (by decide) (by decide)
  clear e e9
  refine ⟨by decide, ?_⟩
  intro s e
  replace K := K.mW e
  clear e
  intro s e
  refine ⟨K.neg e (by decide) (by decide +kernel) (by decide), ?_⟩
  intro s9 e9
  replace K := K.na e e9 (by decide) (by decide +kernel) (by decide) (by decide)
  clear e e9
  intro s e
  refine ⟨K.neg e (by decide) (by decide +kernel) (by decide), ?_⟩
  intro s9 e9
  replace K := K.na e e9 (by decide) (by decide +kernel) (by decide) (by decide)
  clear e e9
  intro s e
  refine ⟨K.neg e (by decide) (by decide +kernel) (by decide), ?_⟩
  intro s9 e9
  replace K := K.na e e9 (by decide) (by decide +kernel) (by decide) (by decide)
  clear e e9
  intro s e
  refine ⟨K.neg e (by decide) (by decide +kernel) (by decide), ?_⟩
  intro s9 e9
  replace K := K.na e e9 (by decide) (by decide +kernel) (by decide) (by decide)
  clear e e9
  refine ⟨by omega, ?_⟩
  intro s e
  replace K := K.mW e
  clear e
  refine ⟨by decide, ?_⟩
  intro s e
  replace K := K.mW e
  clear e
  intro s e
  replace K := K.mW e
  clear e
  intro s e
  refine ⟨K.neg e (by decide) (by decide +kernel) (by decide), ?_⟩
  intro s9 e9
  replace K := K.na e e9 (by decide) (by decide +kernel) (by decide) (by decide)
  clear e e9
  replace K := K.dA (by decide +kernel)
  rw [K.k (c := 0) (v := 245) (by decide +kernel)]
  refine ⟨by decide, by decide, ?_⟩
  intro s e
  replace K := K.mO (o := 245) e (by decide +kernel) (by decide +kernel)
  clear e
  refine wp_Flat_init ?_
  refine ⟨by omega, ?_⟩
  refine ⟨by omega, ?_⟩
  refine ⟨by decide, by decide, ?_⟩
  intro s e
  rw [show max (12 : Int) 1 = 12 by decide] at e
  refine ⟨K.neg e (by decide) (by decide +kernel) (by decide), ?_⟩
  intro s9 e9
  replace K := K.na e e9 (by decide) (by decide +kernel) (by decide) (by decide)
  clear e e9
  refine ⟨by decide, ?_⟩
  intro s e
  replace K := K.mW e
  clear e
  rw [K.k (c := 0) (v := 246) (by decide +kernel)]
  refine ⟨by decide, by decide, ?_⟩
  intro s e
  replace K := K.mO (o := 246) e (by decide +kernel) (by decide +kernel)
  clear e
  refine wp_Flat_init ?_
  refine ⟨by omega, ?_⟩
  refine ⟨by omega, ?_⟩
  refine ⟨by decide, by decide, ?_⟩
  intro s e
  rw [show max (100 : Int) 1 = 100 by decide] at e
  refine ⟨K.neg e (by decide) (by decide +kernel) (by decide), ?_⟩
  intro s9 e9
  replace K := K.na e e9 (by decide) (by decide +kernel) (by decide) (by decide)
  clear e e9
  refine ⟨by decide, ?_⟩
  intro s e
  replace K := K.mW e
  clear e
  rw [K.k (c := 3) (v := 1) (by decide +kernel)]
  refine ⟨by decide, by decide, ?_⟩
  intro s e
  replace K := K.mO (o := 1) e (by decide +kernel) (by decide +kernel)
  clear e
  refine wp_Forest_init ?_
  refine ⟨by omega, ?_⟩
  refine ⟨by omega, ?_⟩
  rw [K.k (c := 6) (v := 2) (by decide +kernel)]
  refine ⟨by decide, by decide, ?_⟩
  intro s e
  replace K := K.mO (o := 2) e (by decide +kernel) (by decide +kernel)
  clear e
  refine wp_Nodes_init ?_
  refine ⟨by omega, ?_⟩
  refine ⟨by omega, ?_⟩
  intro s e
  intro s9 e9
  replace K := K.na e e9 (by decide) (by decide +kernel) (by decide) (by decide)
  clear e e9
  refine ⟨by decide, ?_⟩
  intro s e
  replace K := K.mW e
  clear e
  intro s e
  intro s9 e9
  replace K := K.na e e9 (by decide) (by decide +kernel) (by decide) (by decide)
  clear e e9
  refine ⟨by decide, ?_⟩
  intro s e
  replace K := K.mW e
  clear e
  intro s e
  replace K := K.mW e
  clear e
  intro s e
  replace K := K.mW e
  clear e
  replace K := K.k0 (c := 0) (o := 247) (by decide +kernel)
  refine k_type1 (i := 0) (by omega) K (by decide) (by decide) (by decide) (by decide) (by decide +kernel) (by decide +kernel) (by decide) (by decide +kernel) (by decide +kernel) (fun s K h1 => ?_)
  refine k_type1 (i := 0 + 1) (by omega) K (by decide) (by decide) (by decide) (by decide) (by decide +kernel) (by decide +kernel) (by decide) (by decide +kernel) (by decide +kernel) (fun s K h2 => ?_)
  refine k_type1 (i := 0 + 1 + 1) (by omega) K (by decide) (by decide) (by decide) (by decide) (by decide +kernel) (by decide +kernel) (by decide) (by decide +kernel) (by decide +kernel) (fun s K h3 => ?_)
  refine k_type1 (i := 0 + 1 + 1 + 1) (by omega) K (by decide) (by decide) (by decide) (by decide) (by decide +kernel) (by decide +kernel) (by decide) (by decide +kernel) (by decide +kernel) (fun s K h4 => ?_)
  rw [h3, h2, h1] at h4
  refine wp_Top_init_159 ?_
  rw [if_pos (by decide), K.l (F := 12011) (o := 0) (v := 9) (by decide) (by decide +kernel)]
  refine ⟨by decide, by decide, by decide, fun s9 e9 => ?_⟩
  replace K := K.mR e9 (Or.inl (by decide +kernel)) (by decide) (by decide)
  have h11 : ra s9 12011 0 0 = -1 := by
    rw [e9]
    unfold wa
    rw [raf_wA, if_pos ⟨rfl, rfl⟩]
    rfl
  have hY : ∀ i : Nat, i < 4 → ra s9 12001 0 ((i : Nat) : Int) = 247 + ((i : Nat) : Int) := fun i hi => by
    rw [e9]
    unfold wa
    rw [raf_wA, if_neg (by decide), h4]
    have : i = 0 ∨ i = 1 ∨ i = 2 ∨ i = 3 := by omega
    rcases this with w | w | w | w <;> rw [w] <;> rfl
  clear e9 h1 h2 h3 h4
  have R := kr.rf (fun F => decide (F = 12001 ∨ F = 12011)) s9
  refine ⟨by decide, ?_⟩
  rw [K.k (c := 1) (v := 0) (by decide +kernel)]
  refine ⟨by decide, by decide, ?_⟩
  intro s e
  replace K := K.mO (o := 0) e (by decide +kernel) (by decide +kernel)
  replace R := R.mO e
  clear e
  refine wp_Model_init ?_
  refine ⟨by omega, ?_⟩
  refine ⟨by omega, ?_⟩
  intro s e
  refine ⟨K.neg e (by decide) (by decide +kernel) (by decide), ?_⟩
  intro s9 e9
  replace K := K.na e e9 (by decide) (by decide +kernel) (by decide) (by decide)
  replace R := R.mA e e9 (by decide)
  clear e e9
  intro s e
  replace K := K.mW e
  replace R := R.mW e
  clear e
  intro s e
  refine ⟨K.neg e (by decide) (by decide +kernel) (by decide), ?_⟩
  intro s9 e9
  replace K := K.na e e9 (by decide) (by decide +kernel) (by decide) (by decide)
  replace R := R.mA e e9 (by decide)
  clear e e9
  intro s e
  refine ⟨K.neg e (by decide) (by decide +kernel) (by decide), ?_⟩
  intro s9 e9
  replace K := K.na e e9 (by decide) (by decide +kernel) (by decide) (by decide)
  replace R := R.mA e e9 (by decide)
  clear e e9
  intro s e
  refine ⟨K.neg e (by decide) (by decide +kernel) (by decide), ?_⟩
  intro s9 e9
  replace K := K.na e e9 (by decide) (by decide +kernel) (by decide) (by decide)
  replace R := R.mA e e9 (by decide)
  clear e e9
  intro s e
  refine ⟨K.neg e (by decide) (by decide +kernel) (by decide), ?_⟩
  intro s9 e9
  replace K := K.na e e9 (by decide) (by decide +kernel) (by decide) (by decide)
  replace R := R.mA e e9 (by decide)
  clear e e9
  intro s e
  refine ⟨K.neg e (by decide) (by decide +kernel) (by decide), ?_⟩
  intro s9 e9
  replace K := K.na e e9 (by decide) (by decide +kernel) (by decide) (by decide)
  replace R := R.mA e e9 (by decide)
  clear e e9
  intro s e
  refine ⟨K.neg e (by decide) (by decide +kernel) (by decide), ?_⟩
  intro s9 e9
  replace K := K.na e e9 (by decide) (by decide +kernel) (by decide) (by decide)
  replace R := R.mA e e9 (by decide)
  clear e e9
  intro s e
  refine ⟨K.neg e (by decide) (by decide +kernel) (by decide), ?_⟩
  intro s9 e9
  replace K := K.na e e9 (by decide) (by decide +kernel) (by decide) (by decide)
  replace R := R.mA e e9 (by decide)
  clear e e9
  intro s e
  refine ⟨K.neg e (by decide) (by decide +kernel) (by decide), ?_⟩
  intro s9 e9
  replace K := K.na e e9 (by decide) (by decide +kernel) (by decide) (by decide)
  replace R := R.mA e e9 (by decide)
  clear e e9
  intro s e
  refine ⟨K.neg e (by decide) (by decide +kernel) (by decide), ?_⟩
  intro s9 e9
  replace K := K.na e e9 (by decide) (by decide +kernel) (by decide) (by decide)
  replace R := R.mA e e9 (by decide)
  clear e e9
  intro s e
  refine ⟨K.neg e (by decide) (by decide +kernel) (by decide), ?_⟩
  intro s9 e9
  replace K := K.na e e9 (by decide) (by decide +kernel) (by decide) (by decide)
  replace R := R.mA e e9 (by decide)
  clear e e9
  intro s e
  refine ⟨K.neg e (by decide) (by decide +kernel) (by decide), ?_⟩
  intro s9 e9
  replace K := K.na e e9 (by decide) (by decide +kernel) (by decide) (by decide)
  replace R := R.mA e e9 (by decide)
  clear e e9
  intro s e
  refine ⟨K.neg e (by decide) (by decide +kernel) (by decide), ?_⟩
  intro s9 e9
  replace K := K.na e e9 (by decide) (by decide +kernel) (by decide) (by decide)
  replace R := R.mA e e9 (by decide)
  clear e e9
  intro s e
  refine ⟨K.neg e (by decide) (by decide +kernel) (by decide), ?_⟩
  intro s9 e9
  replace K := K.na e e9 (by decide) (by decide +kernel) (by decide) (by decide)
  replace R := R.mA e e9 (by decide)
  clear e e9
  intro s e
  refine ⟨K.neg e (by decide) (by decide +kernel) (by decide), ?_⟩
  intro s9 e9
  replace K := K.na e e9 (by decide) (by decide +kernel) (by decide) (by decide)
  replace R := R.mA e e9 (by decide)
  clear e e9
  intro s e
  refine ⟨K.neg e (by decide) (by decide +kernel) (by decide), ?_⟩
  intro s9 e9
  replace K := K.na e e9 (by decide) (by decide +kernel) (by decide) (by decide)
  replace R := R.mA e e9 (by decide)
  clear e e9
  intro s e
  refine ⟨K.neg e (by decide) (by decide +kernel) (by decide), ?_⟩
  intro s9 e9
  replace K := K.na e e9 (by decide) (by decide +kernel) (by decide) (by decide)
  replace R := R.mA e e9 (by decide)
  clear e e9
  intro s e
  refine ⟨K.neg e (by decide) (by decide +kernel) (by decide), ?_⟩
  intro s9 e9
  replace K := K.na e e9 (by decide) (by decide +kernel) (by decide) (by decide)
  replace R := R.mA e e9 (by decide)
  clear e e9
  intro s e
  refine ⟨K.neg e (by decide) (by decide +kernel) (by decide), ?_⟩
  intro s9 e9
  replace K := K.na e e9 (by decide) (by decide +kernel) (by decide) (by decide)
  replace R := R.mA e e9 (by decide)
  clear e e9
  intro s e
  refine ⟨K.neg e (by decide) (by decide +kernel) (by decide), ?_⟩
  intro s9 e9
  replace K := K.na e e9 (by decide) (by decide +kernel) (by decide) (by decide)
  replace R := R.mA e e9 (by decide)
  clear e e9
  intro s e
  refine ⟨K.neg e (by decide) (by decide +kernel) (by decide), ?_⟩
  intro s9 e9
  replace K := K.na e e9 (by decide) (by decide +kernel) (by decide) (by decide)
  replace R := R.mA e e9 (by decide)
  clear e e9
  intro s e
  refine ⟨K.neg e (by decide) (by decide +kernel) (by decide), ?_⟩
  intro s9 e9
  replace K := K.na e e9 (by decide) (by decide +kernel) (by decide) (by decide)
  replace R := R.mA e e9 (by decide)
  clear e e9
  intro s e
  refine ⟨K.neg e (by decide) (by decide +kernel) (by decide), ?_⟩
  intro s9 e9
  replace K := K.na e e9 (by decide) (by decide +kernel) (by decide) (by decide)
  replace R := R.mA e e9 (by decide)
  clear e e9
  intro s e
  refine ⟨K.neg e (by decide) (by decide +kernel) (by decide), ?_⟩
  intro s9 e9
  replace K := K.na e e9 (by decide) (by decide +kernel) (by decide) (by decide)
  replace R := R.mA e e9 (by decide)
  clear e e9
  intro s e
  refine ⟨K.neg e (by decide) (by decide +kernel) (by decide), ?_⟩
  intro s9 e9
  replace K := K.na e e9 (by decide) (by decide +kernel) (by decide) (by decide)
  replace R := R.mA e e9 (by decide)
  clear e e9
  intro s e
  refine ⟨K.neg e (by decide) (by decide +kernel) (by decide), ?_⟩
  intro s9 e9
  replace K := K.na e e9 (by decide) (by decide +kernel) (by decide) (by decide)
  replace R := R.mA e e9 (by decide)
  clear e e9
  intro s e
  refine ⟨K.neg e (by decide) (by decide +kernel) (by decide), ?_⟩
  intro s9 e9
  replace K := K.na e e9 (by decide) (by decide +kernel) (by decide) (by decide)
  replace R := R.mA e e9 (by decide)
  clear e e9
  intro s e
  refine ⟨K.neg e (by decide) (by decide +kernel) (by decide), ?_⟩
  intro s9 e9
  replace K := K.na e e9 (by decide) (by decide +kernel) (by decide) (by decide)
  replace R := R.mA e e9 (by decide)
  clear e e9
  intro s1 e1
  have l1 : rl s1 900000 0 = 4 := by rw [e1, rl_nA]; exact if_pos ⟨rfl, rfl⟩
  have n1 : rl s1 1047 0 < 0 := K.neg e1 (by decide) (by decide +kernel) (by decide)
  refine ⟨by omega, ?_⟩
  intro s2 e2
  have l2 : rl s2 900000 0 = 4 := by rw [e2]; exact l1
  refine ⟨by omega, ?_⟩
  intro s3 e3
  have l3 : rl s3 900000 0 = 4 := by rw [e3]; exact l2
  refine ⟨by omega, ?_⟩
  intro s4 e4
  have l4 : rl s4 900000 0 = 4 := by rw [e4]; exact l3
  refine ⟨by omega, ?_⟩
  intro s5 e5
  have n5 : rl s5 1047 0 < 0 := by rw [e5, e4, e3, e2]; exact n1
  refine ⟨n5, ?_⟩
  intro s6 e6
  obtain ⟨K6, h47, f6⟩ := K.told e1 e2 e3 e4 e5 e6 (by decide +kernel) (by decide +kernel)
  replace K := K6
  have hY7 : ∀ i : Nat, i < 4 → ra s6 12001 0 ((i : Nat) : Int) = 247 + ((i : Nat) : Int) := fun i hi => by rw [f6 12001 (by decide) (by decide), R 12001 (by decide) (by decide)]; exact hY i hi
  have h117 : ra s6 12011 0 0 = -1 := by rw [f6 12011 (by decide) (by decide), R 12011 (by decide) (by decide)]; exact h11
  replace R := kr.rf (fun F => decide (F = 12001 ∨ F = 12011 ∨ F = 1047)) s6
  clear e1 e2 e3 e4 e5 e6 l1 l2 l3 l4 n1 n5 f6 K6
  intro s e
  refine ⟨K.neg e (by decide) (by decide +kernel) (by decide), ?_⟩
  intro s9 e9
  replace K := K.na e e9 (by decide) (by decide +kernel) (by decide) (by decide)
  replace R := R.mA e e9 (by decide)
  clear e e9
  intro s e
  refine ⟨K.neg e (by decide) (by decide +kernel) (by decide), ?_⟩
  intro s9 e9
  replace K := K.na e e9 (by decide) (by decide +kernel) (by decide) (by decide)
  replace R := R.mA e e9 (by decide)
  clear e e9
  intro s e
  refine ⟨K.neg e (by decide) (by decide +kernel) (by decide), ?_⟩
  intro s9 e9
  replace K := K.na e e9 (by decide) (by decide +kernel) (by decide) (by decide)
  replace R := R.mA e e9 (by decide)
  clear e e9
  intro s e
  refine ⟨K.neg e (by decide) (by decide +kernel) (by decide), ?_⟩
  intro s9 e9
  replace K := K.na e e9 (by decide) (by decide +kernel) (by decide) (by decide)
  replace R := R.mA e e9 (by decide)
  clear e e9
  intro s e
  refine ⟨K.neg e (by decide) (by decide +kernel) (by decide), ?_⟩
  intro s9 e9
  replace K := K.na e e9 (by decide) (by decide +kernel) (by decide) (by decide)
  replace R := R.mA e e9 (by decide)
  clear e e9
  intro s e
  refine ⟨K.neg e (by decide) (by decide +kernel) (by decide), ?_⟩
  intro s9 e9
  replace K := K.na e e9 (by decide) (by decide +kernel) (by decide) (by decide)
  replace R := R.mA e e9 (by decide)
  clear e e9
  intro s e
  refine ⟨K.neg e (by decide) (by decide +kernel) (by decide), ?_⟩
  intro s9 e9
  replace K := K.na e e9 (by decide) (by decide +kernel) (by decide) (by decide)
  replace R := R.mA e e9 (by decide)
  clear e e9
  intro s e
  refine ⟨K.neg e (by decide) (by decide +kernel) (by decide), ?_⟩
  intro s9 e9
  replace K := K.na e e9 (by decide) (by decide +kernel) (by decide) (by decide)
  replace R := R.mA e e9 (by decide)
  clear e e9
  intro s e
  refine ⟨K.neg e (by decide) (by decide +kernel) (by decide), ?_⟩
  intro s9 e9
  replace K := K.na e e9 (by decide) (by decide +kernel) (by decide) (by decide)
  replace R := R.mA e e9 (by decide)
  clear e e9
  intro s e
  refine ⟨K.neg e (by decide) (by decide +kernel) (by decide), ?_⟩
  intro s9 e9
  replace K := K.na e e9 (by decide) (by decide +kernel) (by decide) (by decide)
  replace R := R.mA e e9 (by decide)
  clear e e9
  intro s e
  refine ⟨K.neg e (by decide) (by decide +kernel) (by decide), ?_⟩
  intro s9 e9
  replace K := K.na e e9 (by decide) (by decide +kernel) (by decide) (by decide)
  replace R := R.mA e e9 (by decide)
  clear e e9
  intro s e
  refine ⟨K.neg e (by decide) (by decide +kernel) (by decide), ?_⟩
  intro s9 e9
  replace K := K.na e e9 (by decide) (by decide +kernel) (by decide) (by decide)
  replace R := R.mA e e9 (by decide)
  clear e e9
  intro s e
  refine ⟨K.neg e (by decide) (by decide +kernel) (by decide), ?_⟩
  intro s9 e9
  replace K := K.na e e9 (by decide) (by decide +kernel) (by decide) (by decide)
  replace R := R.mA e e9 (by decide)
  clear e e9
  intro s e
  refine ⟨K.neg e (by decide) (by decide +kernel) (by decide), ?_⟩
  intro s9 e9
  replace K := K.na e e9 (by decide) (by decide +kernel) (by decide) (by decide)
  replace R := R.mA e e9 (by decide)
  clear e e9
  intro s e
  refine ⟨K.neg e (by decide) (by decide +kernel) (by decide), ?_⟩
  intro s9 e9
  replace K := K.na e e9 (by decide) (by decide +kernel) (by decide) (by decide)
  replace R := R.mA e e9 (by decide)
  clear e e9
  intro s e
  refine ⟨K.neg e (by decide) (by decide +kernel) (by decide), ?_⟩
  intro s9 e9
  replace K := K.na e e9 (by decide) (by decide +kernel) (by decide) (by decide)
  replace R := R.mA e e9 (by decide)
  clear e e9
  intro s e
  refine ⟨K.neg e (by decide) (by decide +kernel) (by decide), ?_⟩
  intro s9 e9
  replace K := K.na e e9 (by decide) (by decide +kernel) (by decide) (by decide)
  replace R := R.mA e e9 (by decide)
  clear e e9
  intro s e
  refine ⟨K.neg e (by decide) (by decide +kernel) (by decide), ?_⟩
  intro s9 e9
  replace K := K.na e e9 (by decide) (by decide +kernel) (by decide) (by decide)
  replace R := R.mA e e9 (by decide)
  clear e e9
  intro s e
  refine ⟨K.neg e (by decide) (by decide +kernel) (by decide), ?_⟩
  intro s9 e9
  replace K := K.na e e9 (by decide) (by decide +kernel) (by decide) (by decide)
  replace R := R.mA e e9 (by decide)
  clear e e9
  intro s e
  refine ⟨K.neg e (by decide) (by decide +kernel) (by decide), ?_⟩
  intro s9 e9
  replace K := K.na e e9 (by decide) (by decide +kernel) (by decide) (by decide)
  replace R := R.mA e e9 (by decide)
  clear e e9
  intro s e
  refine ⟨K.neg e (by decide) (by decide +kernel) (by decide), ?_⟩
  intro s9 e9
  replace K := K.na e e9 (by decide) (by decide +kernel) (by decide) (by decide)
  replace R := R.mA e e9 (by decide)
  clear e e9
  intro s e
  refine ⟨K.neg e (by decide) (by decide +kernel) (by decide), ?_⟩
  intro s9 e9
  replace K := K.na e e9 (by decide) (by decide +kernel) (by decide) (by decide)
  replace R := R.mA e e9 (by decide)
  clear e e9
  intro s e
  refine ⟨K.neg e (by decide) (by decide +kernel) (by decide), ?_⟩
  intro s9 e9
  replace K := K.na e e9 (by decide) (by decide +kernel) (by decide) (by decide)
  replace R := R.mA e e9 (by decide)
  clear e e9
  intro s e
  refine ⟨K.neg e (by decide) (by decide +kernel) (by decide), ?_⟩
  intro s9 e9
  replace K := K.na e e9 (by decide) (by decide +kernel) (by decide) (by decide)
  replace R := R.mA e e9 (by decide)
  clear e e9
  intro s e
  refine ⟨K.neg e (by decide) (by decide +kernel) (by decide), ?_⟩
  intro s9 e9
  replace K := K.na e e9 (by decide) (by decide +kernel) (by decide) (by decide)
  replace R := R.mA e e9 (by decide)
  clear e e9
  intro s e
  refine ⟨K.neg e (by decide) (by decide +kernel) (by decide), ?_⟩
  intro s9 e9
  replace K := K.na e e9 (by decide) (by decide +kernel) (by decide) (by decide)
  replace R := R.mA e e9 (by decide)
  clear e e9
  intro s e
  refine ⟨K.neg e (by decide) (by decide +kernel) (by decide), ?_⟩
  intro s9 e9
  replace K := K.na e e9 (by decide) (by decide +kernel) (by decide) (by decide)
  replace R := R.mA e e9 (by decide)
  clear e e9
  intro s e
  refine ⟨K.neg e (by decide) (by decide +kernel) (by decide), ?_⟩
  intro s9 e9
  replace K := K.na e e9 (by decide) (by decide +kernel) (by decide) (by decide)
  replace R := R.mA e e9 (by decide)
  clear e e9
  intro s e
  refine ⟨K.neg e (by decide) (by decide +kernel) (by decide), ?_⟩
  intro s9 e9
  replace K := K.na e e9 (by decide) (by decide +kernel) (by decide) (by decide)
  replace R := R.mA e e9 (by decide)
  clear e e9
  intro s e
  refine ⟨K.neg e (by decide) (by decide +kernel) (by decide), ?_⟩
  intro s9 e9
  replace K := K.na e e9 (by decide) (by decide +kernel) (by decide) (by decide)
  replace R := R.mA e e9 (by decide)
  clear e e9
  intro s e
  refine ⟨K.neg e (by decide) (by decide +kernel) (by decide), ?_⟩
  intro s9 e9
  replace K := K.na e e9 (by decide) (by decide +kernel) (by decide) (by decide)
  replace R := R.mA e e9 (by decide)
  clear e e9
  intro s e
  refine ⟨K.neg e (by decide) (by decide +kernel) (by decide), ?_⟩
  intro s9 e9
  replace K := K.na e e9 (by decide) (by decide +kernel) (by decide) (by decide)
  replace R := R.mA e e9 (by decide)
  clear e e9
  intro s e
  refine ⟨K.neg e (by decide) (by decide +kernel) (by decide), ?_⟩
  intro s9 e9
  replace K := K.na e e9 (by decide) (by decide +kernel) (by decide) (by decide)
  replace R := R.mA e e9 (by decide)
  clear e e9
  intro s e
  refine ⟨K.neg e (by decide) (by decide +kernel) (by decide), ?_⟩
  intro s9 e9
  replace K := K.na e e9 (by decide) (by decide +kernel) (by decide) (by decide)
  replace R := R.mA e e9 (by decide)
  clear e e9
  intro s e
  refine ⟨K.neg e (by decide) (by decide +kernel) (by decide), ?_⟩
  intro s9 e9
  replace K := K.na e e9 (by decide) (by decide +kernel) (by decide) (by decide)
  replace R := R.mA e e9 (by decide)
  clear e e9
  intro s e
  refine ⟨K.neg e (by decide) (by decide +kernel) (by decide), ?_⟩
  intro s9 e9
  replace K := K.na e e9 (by decide) (by decide +kernel) (by decide) (by decide)
  replace R := R.mA e e9 (by decide)
  clear e e9
  intro s e
  refine ⟨K.neg e (by decide) (by decide +kernel) (by decide), ?_⟩
  intro s9 e9
  replace K := K.na e e9 (by decide) (by decide +kernel) (by decide) (by decide)
  replace R := R.mA e e9 (by decide)
  clear e e9
  intro s e
  refine ⟨K.neg e (by decide) (by decide +kernel) (by decide), ?_⟩
  intro s9 e9
  replace K := K.na e e9 (by decide) (by decide +kernel) (by decide) (by decide)
  replace R := R.mA e e9 (by decide)
  clear e e9
  intro s e
  refine ⟨K.neg e (by decide) (by decide +kernel) (by decide), ?_⟩
  intro s9 e9
  replace K := K.na e e9 (by decide) (by decide +kernel) (by decide) (by decide)
  replace R := R.mA e e9 (by decide)
  clear e e9
  intro s e
  refine ⟨K.neg e (by decide) (by decide +kernel) (by decide), ?_⟩
  intro s9 e9
  replace K := K.na e e9 (by decide) (by decide +kernel) (by decide) (by decide)
  replace R := R.mA e e9 (by decide)
  clear e e9
  intro s e
  refine ⟨K.neg e (by decide) (by decide +kernel) (by decide), ?_⟩
  intro s9 e9
  replace K := K.na e e9 (by decide) (by decide +kernel) (by decide) (by decide)
  replace R := R.mA e e9 (by decide)
  clear e e9
  intro s e
  refine ⟨K.neg e (by decide) (by decide +kernel) (by decide), ?_⟩
  intro s9 e9
  replace K := K.na e e9 (by decide) (by decide +kernel) (by decide) (by decide)
  replace R := R.mA e e9 (by decide)
  clear e e9
  intro s e
  refine ⟨K.neg e (by decide) (by decide +kernel) (by decide), ?_⟩
  intro s9 e9
  replace K := K.na e e9 (by decide) (by decide +kernel) (by decide) (by decide)
  replace R := R.mA e e9 (by decide)
  clear e e9
  intro s e
  refine ⟨K.neg e (by decide) (by decide +kernel) (by decide), ?_⟩
  intro s9 e9
  replace K := K.na e e9 (by decide) (by decide +kernel) (by decide) (by decide)
  replace R := R.mA e e9 (by decide)
  clear e e9
  intro s e
  refine ⟨K.neg e (by decide) (by decide +kernel) (by decide), ?_⟩
  intro s9 e9
  replace K := K.na e e9 (by decide) (by decide +kernel) (by decide) (by decide)
  replace R := R.mA e e9 (by decide)
  clear e e9
  intro s e
  refine ⟨K.neg e (by decide) (by decide +kernel) (by decide), ?_⟩
  intro s9 e9
  replace K := K.na e e9 (by decide) (by decide +kernel) (by decide) (by decide)
  replace R := R.mA e e9 (by decide)
  clear e e9
  intro s e
  refine ⟨K.neg e (by decide) (by decide +kernel) (by decide), ?_⟩
  intro s9 e9
  replace K := K.na e e9 (by decide) (by decide +kernel) (by decide) (by decide)
  replace R := R.mA e e9 (by decide)
  clear e e9
  intro s e
  refine ⟨K.neg e (by decide) (by decide +kernel) (by decide), ?_⟩
  intro s9 e9
  replace K := K.na e e9 (by decide) (by decide +kernel) (by decide) (by decide)
  replace R := R.mA e e9 (by decide)
  clear e e9
  intro s e
  refine ⟨K.neg e (by decide) (by decide +kernel) (by decide), ?_⟩
  intro s9 e9
  replace K := K.na e e9 (by decide) (by decide +kernel) (by decide) (by decide)
  replace R := R.mA e e9 (by decide)
  clear e e9
  intro s e
  refine ⟨K.neg e (by decide) (by decide +kernel) (by decide), ?_⟩
  intro s9 e9
  replace K := K.na e e9 (by decide) (by decide +kernel) (by decide) (by decide)
  replace R := R.mA e e9 (by decide)
  clear e e9
  intro s e
  refine ⟨K.neg e (by decide) (by decide +kernel) (by decide), ?_⟩
  intro s9 e9
  replace K := K.na e e9 (by decide) (by decide +kernel) (by decide) (by decide)
  replace R := R.mA e e9 (by decide)
  clear e e9
  intro s e
  refine ⟨K.neg e (by decide) (by decide +kernel) (by decide), ?_⟩
  intro s9 e9
  replace K := K.na e e9 (by decide) (by decide +kernel) (by decide) (by decide)
  replace R := R.mA e e9 (by decide)
  clear e e9
  intro s e
  refine ⟨K.neg e (by decide) (by decide +kernel) (by decide), ?_⟩
  intro s9 e9
  replace K := K.na e e9 (by decide) (by decide +kernel) (by decide) (by decide)
  replace R := R.mA e e9 (by decide)
  clear e e9
  intro s e
  refine ⟨K.neg e (by decide) (by decide +kernel) (by decide), ?_⟩
  intro s9 e9
  replace K := K.na e e9 (by decide) (by decide +kernel) (by decide) (by decide)
  replace R := R.mA e e9 (by decide)
  clear e e9
  intro s e
  refine ⟨K.neg e (by decide) (by decide +kernel) (by decide), ?_⟩
  intro s9 e9
  replace K := K.na e e9 (by decide) (by decide +kernel) (by decide) (by decide)
  replace R := R.mA e e9 (by decide)
  clear e e9
  intro s e
  refine ⟨K.neg e (by decide) (by decide +kernel) (by decide), ?_⟩
  intro s9 e9
  replace K := K.na e e9 (by decide) (by decide +kernel) (by decide) (by decide)
  replace R := R.mA e e9 (by decide)
  clear e e9
  intro s e
  refine ⟨K.neg e (by decide) (by decide +kernel) (by decide), ?_⟩
  intro s9 e9
  replace K := K.na e e9 (by decide) (by decide +kernel) (by decide) (by decide)
  replace R := R.mA e e9 (by decide)
  clear e e9
  intro s e
  refine ⟨K.neg e (by decide) (by decide +kernel) (by decide), ?_⟩
  intro s9 e9
  replace K := K.na e e9 (by decide) (by decide +kernel) (by decide) (by decide)
  replace R := R.mA e e9 (by decide)
  clear e e9
  intro s e
  refine ⟨K.neg e (by decide) (by decide +kernel) (by decide), ?_⟩
  intro s9 e9
  replace K := K.na e e9 (by decide) (by decide +kernel) (by decide) (by decide)
  replace R := R.mA e e9 (by decide)
  clear e e9
  intro s e
  refine ⟨K.neg e (by decide) (by decide +kernel) (by decide), ?_⟩
  intro s9 e9
  replace K := K.na e e9 (by decide) (by decide +kernel) (by decide) (by decide)
  replace R := R.mA e e9 (by decide)
  clear e e9
  intro s e
  refine ⟨K.neg e (by decide) (by decide +kernel) (by decide), ?_⟩
  intro s9 e9
  replace K := K.na e e9 (by decide) (by decide +kernel) (by decide) (by decide)
  replace R := R.mA e e9 (by decide)
  clear e e9
  intro s e
  refine ⟨K.neg e (by decide) (by decide +kernel) (by decide), ?_⟩
  intro s9 e9
  replace K := K.na e e9 (by decide) (by decide +kernel) (by decide) (by decide)
  replace R := R.mA e e9 (by decide)
  clear e e9
  intro s e
  refine ⟨K.neg e (by decide) (by decide +kernel) (by decide), ?_⟩
  intro s9 e9
  replace K := K.na e e9 (by decide) (by decide +kernel) (by decide) (by decide)
  replace R := R.mA e e9 (by decide)
  clear e e9
  intro s e
  refine ⟨K.neg e (by decide) (by decide +kernel) (by decide), ?_⟩
  intro s9 e9
  replace K := K.na e e9 (by decide) (by decide +kernel) (by decide) (by decide)
  replace R := R.mA e e9 (by decide)
  clear e e9
  intro s e
  refine ⟨K.neg e (by decide) (by decide +kernel) (by decide), ?_⟩
  intro s9 e9
  replace K := K.na e e9 (by decide) (by decide +kernel) (by decide) (by decide)
  replace R := R.mA e e9 (by decide)
  clear e e9
  intro s e
  refine ⟨K.neg e (by decide) (by decide +kernel) (by decide), ?_⟩
  intro s9 e9
  replace K := K.na e e9 (by decide) (by decide +kernel) (by decide) (by decide)
  replace R := R.mA e e9 (by decide)
  clear e e9
  intro s e
  refine ⟨K.neg e (by decide) (by decide +kernel) (by decide), ?_⟩
  intro s9 e9
  replace K := K.na e e9 (by decide) (by decide +kernel) (by decide) (by decide)
  replace R := R.mA e e9 (by decide)
  clear e e9
  intro s e
  refine ⟨K.neg e (by decide) (by decide +kernel) (by decide), ?_⟩
  intro s9 e9
  replace K := K.na e e9 (by decide) (by decide +kernel) (by decide) (by decide)
  replace R := R.mA e e9 (by decide)
  clear e e9
  intro s e
  refine ⟨K.neg e (by decide) (by decide +kernel) (by decide), ?_⟩
  intro s9 e9
  replace K := K.na e e9 (by decide) (by decide +kernel) (by decide) (by decide)
  replace R := R.mA e e9 (by decide)
  clear e e9
  intro s e
  refine ⟨K.neg e (by decide) (by decide +kernel) (by decide), ?_⟩
  intro s9 e9
  replace K := K.na e e9 (by decide) (by decide +kernel) (by decide) (by decide)
  replace R := R.mA e e9 (by decide)
  clear e e9
  intro s e
  refine ⟨K.neg e (by decide) (by decide +kernel) (by decide), ?_⟩
  intro s9 e9
  replace K := K.na e e9 (by decide) (by decide +kernel) (by decide) (by decide)
  replace R := R.mA e e9 (by decide)
  clear e e9
  refine wp_Model_init_862 ?_
  rw [if_neg (by decide), K.l (F := 1046) (o := 0) (v := 48) (by decide) (by decide +kernel)]
  refine ⟨by decide, by decide, ⟨by decide, by decide⟩, by omega, wp_Model_con ⟨⟨by decide, by decide⟩, ⟨by decide, by decide⟩, ?_⟩⟩
  rw [K.l (F := 1046) (o := 0) (v := 48) (by decide) (by decide +kernel), show 4 * 0 + 0 = (0 : Int) by decide]
  refine ⟨by decide, by decide, fun s e => ⟨⟨by decide, by decide⟩, ?_⟩⟩
  replace K := K.mR e (Or.inr (by decide +kernel)) (by decide) (by decide)
  replace R := R.mR e (by decide)
  clear e
  refine wp_Model_init_862 ?_
  rw [if_neg (by decide), K.l (F := 1046) (o := 0) (v := 48) (by decide) (by decide +kernel)]
  refine ⟨by decide, by decide, ⟨by decide, by decide⟩, by omega, wp_Model_con ⟨⟨by decide, by decide⟩, ⟨by decide, by decide⟩, ?_⟩⟩
  rw [K.l (F := 1046) (o := 0) (v := 48) (by decide) (by decide +kernel), show 4 * 0 + 0 = (0 : Int) by decide]
  refine ⟨by decide, by decide, fun s e => ⟨⟨by decide, by decide⟩, ?_⟩⟩
  replace K := K.mR e (Or.inr (by decide +kernel)) (by decide) (by decide)
  replace R := R.mR e (by decide)
  clear e
  refine wp_Model_init_862 ?_
  rw [if_neg (by decide), K.l (F := 1046) (o := 0) (v := 48) (by decide) (by decide +kernel)]
  refine ⟨by decide, by decide, ⟨by decide, by decide⟩, by omega, wp_Model_con ⟨⟨by decide, by decide⟩, ⟨by decide, by decide⟩, ?_⟩⟩
  rw [K.l (F := 1046) (o := 0) (v := 48) (by decide) (by decide +kernel), show 4 * 0 + 0 = (0 : Int) by decide]
  refine ⟨by decide, by decide, fun s e => ⟨⟨by decide, by decide⟩, ?_⟩⟩
  replace K := K.mR e (Or.inr (by decide +kernel)) (by decide) (by decide)
  replace R := R.mR e (by decide)
  clear e
  refine wp_Model_init_862 ?_
  rw [if_neg (by decide), K.l (F := 1046) (o := 0) (v := 48) (by decide) (by decide +kernel)]
  refine ⟨by decide, by decide, ⟨by decide, by decide⟩, by omega, wp_Model_con ⟨⟨by decide, by decide⟩, ⟨by decide, by decide⟩, ?_⟩⟩
  rw [K.l (F := 1046) (o := 0) (v := 48) (by decide) (by decide +kernel), show 4 * 0 + 0 = (0 : Int) by decide]
  refine ⟨by decide, by decide, fun s e => ⟨⟨by decide, by decide⟩, ?_⟩⟩
  replace K := K.mR e (Or.inr (by decide +kernel)) (by decide) (by decide)
  replace R := R.mR e (by decide)
  clear e
  refine wp_Model_init_862 ?_
  rw [if_pos (by decide)]
  refine ⟨by decide, ?_⟩
  have hF := k_fin K (by decide +kernel) (by decide +kernel) (by decide +kernel) (by decide +kernel) (by decide +kernel) (by decide +kernel) (fun i hi => by rw [R 12001 (by decide) (by decide)]; exact hY7 i hi) (by rw [R 12011 (by decide) (by decide)]; exact h117) (fun i hi => by rw [R 1047 (by decide) (by decide)]; exact h47 i hi)
  exact law_loop hn hL0 hL L.toNat 0 _ (by omega) (by decide) K.1 ⟨_, hF⟩
end ZAj
