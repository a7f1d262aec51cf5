/-! The search, told without rows of nodes: what both do. -/
/-- a node of a tree: its given one, level, candidates, failed, untried, how many below; the goal's node; its row, once kept -/
abbrev zN : Type := Int × Int × Int × Int × Int × Int × Int × Option (List Int)
/-- a node, or the tree of a remembered goal -/
abbrev zI : Type := zN ⊕ Nat
abbrev zM : Type := List (Int × List Int × List zN)
/-- nodes; remembered goals; asked, met, cut, tried, deepest -/
abbrev zS : Type := (zH × Int × List (Int × Int)) × zM × (Int × Int × Int × Int × Int)
/-- how it ended (0: in no other way); the tree, if found; of two that are as good: which, and the goal's row -/
abbrev zQ : Type := Int × Option (List zI) × (Int × Int × List Int)
/-- THE TEXT, what is out, what is shut, where it is asked, whether it remembers -/
abbrev zP : Type := zT × Int × Int × Int × Bool
def hG (s : zS) : zH := s.1.1
def hN (s : zS) : Int := s.1.2.1
def hE (s : zS) : List (Int × Int) := s.1.2.2
def sM (s : zS) : zM := s.2.1
def sA (s : zS) : Int := s.2.2.1
def sMt (s : zS) : Int := s.2.2.2.1
def sC (s : zS) : Int := s.2.2.2.2.1
def sTr (s : zS) : Int := s.2.2.2.2.2.1
def sD (s : zS) : Int := s.2.2.2.2.2.2
noncomputable def rowE (g : zH) (N : Int) (E : List (Int × Int)) (x : Int) : List Int := Classical.epsilon (fun r => ∃ β, rep g N β E ∧ r = cno [] (ex g N β x))
theorem rowE_eq {g : zH} {N : Int} {β E : List (Int × Int)} {x : Int} (hz : zok g N) (h : rep g N β E) (x0 : 0 ≤ x) (x1 : x < N) : rowE g N E x = cno [] (ex g N β x) := by
  obtain ⟨β', h1, h2⟩ := Classical.epsilon_spec (p := fun r => ∃ β, rep g N β E ∧ r = cno [] (ex g N β x)) ⟨_, β, h, rfl⟩
  exact h2.trans (ex_row hz h h1 x0 x1)
noncomputable def dcd (p : Prop) : Bool := @decide p (Classical.propDecidable p)
theorem dcd_iff {p : Prop} : dcd p = true ↔ p := by
  unfold dcd
  exact @decide_eq_true_iff p (Classical.propDecidable p)
/-- the letters of two rows are the same -/
def covE (r r' : List Int) : Prop := ∀ k : Int, 0 ≤ k → k < 32 → ((∃ t, t ∈ r ∧ 0 ≤ t ∧ t / 4 = k) ↔ ∃ t, t ∈ r' ∧ 0 ≤ t ∧ t / 4 = k)
noncomputable def canL (P : zP) (s : zS) (x sc : Int) : List Int := (zrg (tG P.1)).filter (fun k => dcd (canP P.1 P.2.1 P.2.2.1 (hG s) (hN s) (hE s) x sc k))
noncomputable def bstL (T : zT) (C : List Int) : List Int := C.filter (fun k => dcd (∀ c, c ∈ C → ¬ spc T c k))
/-- the same given one is tried around it, for a goal no greater, of the same letters -/
def cutP (s : zS) (path : List (Int × Int)) (x k : Int) : Prop := ∃ p, p ∈ path ∧ p.1 = k ∧ (rowE (hG s) (hN s) (hE s) p.2).length ≤ (rowE (hG s) (hN s) (hE s) x).length ∧ covE (rowE (hG s) (hN s) (hE s) p.2) (rowE (hG s) (hN s) (hE s) x)
def layNs (T : zT) (k : Int) : Nat → Nat → zH → Int → (Int → Int) → zH × Int × (Int → Int) × List Int
  | 0, _, g, N, vs => (g, N, vs, [])
  | j + 1, i, g, N, vs => ((layNs T k j (i + 1) (layR (tR T k i) g N vs).1 (layR (tR T k i) g N vs).2.1 (layR (tR T k i) g N vs).2.2.1).1, (layNs T k j (i + 1) (layR (tR T k i) g N vs).1 (layR (tR T k i) g N vs).2.1 (layR (tR T k i) g N vs).2.2.1).2.1, (layNs T k j (i + 1) (layR (tR T k i) g N vs).1 (layR (tR T k i) g N vs).2.1 (layR (tR T k i) g N vs).2.2.1).2.2.1, (layR (tR T k i) g N vs).2.2.2.headD 0 :: (layNs T k j (i + 1) (layR (tR T k i) g N vs).1 (layR (tR T k i) g N vs).2.1 (layR (tR T k i) g N vs).2.2.1).2.2.2)
/-- a given one is laid: nodes, its RESULT, its NEEDS -/
def layGv (T : zT) (k : Int) (g : zH) (N : Int) : zH × Int × Int × List Int :=
  ((layNs T k (tN T k).toNat 1 (layR (tR T k 0) g N (fun _ => -1)).1 (layR (tR T k 0) g N (fun _ => -1)).2.1 (layR (tR T k 0) g N (fun _ => -1)).2.2.1).1, (layNs T k (tN T k).toNat 1 (layR (tR T k 0) g N (fun _ => -1)).1 (layR (tR T k 0) g N (fun _ => -1)).2.1 (layR (tR T k 0) g N (fun _ => -1)).2.2.1).2.1, (layR (tR T k 0) g N (fun _ => -1)).2.2.2.headD 0, (layNs T k (tN T k).toNat 1 (layR (tR T k 0) g N (fun _ => -1)).1 (layR (tR T k 0) g N (fun _ => -1)).2.1 (layR (tR T k 0) g N (fun _ => -1)).2.2.1).2.2.2)
def memT (M : zM) (m : Nat) : List zN := ((M[m]?).map (fun e => e.2.2)).getD []
/-- the tree with what was remembered in its place -/
def expT (M : zM) (t : List zI) : List zN := t.flatMap (fun i => match i with
  | .inl r => [r]
  | .inr m => memT M m)
def noQ : Int × Int × List Int := (0, 0, [])
def spNeeds (ask : zS → Int → zS × zQ) : List Int → zS → List zI → zS × zQ
  | [], s, acc => (s, 0, some acc, noQ)
  | y :: ys, s, acc => match (ask s y).2.2.1 with
    | none => ((ask s y).1, (ask s y).2.1, none, (ask s y).2.2.2)
    | some t => spNeeds ask ys (ask s y).1 (acc ++ t)
def spLay (T : zT) (k x : Int) (s : zS) : zS := (((layGv T k (hG s) (hN s)).1, (layGv T k (hG s) (hN s)).2.1, ((layGv T k (hG s) (hN s)).2.2.1, x) :: hE s), sM s, sA s, sMt s, sC s, sTr s + 1, sD s)
def spTry (P : zP) (ask : zS → Int → zS × zQ) (k x : Int) (s : zS) : zS × zQ :=
  match (spNeeds ask (layGv P.1 k (hG s) (hN s)).2.2.2 (spLay P.1 k x s) []).2.2.1 with
  | none => spNeeds ask (layGv P.1 k (hG s) (hN s)).2.2.2 (spLay P.1 k x s) []
  | some t => if 200 < (expT (sM (spNeeds ask (layGv P.1 k (hG s) (hN s)).2.2.2 (spLay P.1 k x s) []).1) t).length + 1 then ((spNeeds ask (layGv P.1 k (hG s) (hN s)).2.2.2 (spLay P.1 k x s) []).1, 6, none, noQ) else spNeeds ask (layGv P.1 k (hG s) (hN s)).2.2.2 (spLay P.1 k x s) []
/-- back to the nodes of s -/
def spBack (s s1 : zS) : zS := (s.1, s1.2)
noncomputable def spBest (P : zP) (ask : Int → zS → Int → zS × zQ) (path : List (Int × Int)) (x lvl cds unt : Int) : List Int → zS → Int → Option (Int × List zI × List (Int × Int)) → Option Int → zS × zQ × Int
  | [], s, f, none, _ => (s, (0, none, noQ), f)
  | [], s, f, some o, none => (((hG s, hN s, o.2.2), s.2), (0, some (.inl (o.1, lvl, cds, f, unt, tN P.1 o.1, x, none) :: o.2.1), noQ), f)
  | [], s, f, some o, some b => (s, (2, none, (o.1, b, rowE (hG s) (hN s) (hE s) x)), f)
  | k :: ks, s, f, one, another =>
    if dcd (cutP s path x k) = true then spBest P ask path x lvl cds unt ks (s.1, sM s, sA s, sMt s, sC s + 1, sTr s, sD s) (f + 1) one another
    else if ¬ (spTry P (ask k) k x s).2.1 = 0 then ((spTry P (ask k) k x s).1, (spTry P (ask k) k x s).2, f)
    else match (spTry P (ask k) k x s).2.2.1, one with
      | none, _ => spBest P ask path x lvl cds unt ks (spBack s (spTry P (ask k) k x s).1) (f + 1) one another
      | some t, none => spBest P ask path x lvl cds unt ks ((hG (spTry P (ask k) k x s).1, hN (spTry P (ask k) k x s).1, hE s), (spTry P (ask k) k x s).1.2) f (some (k, t, hE (spTry P (ask k) k x s).1)) another
      | some _, some o => spBest P ask path x lvl cds unt ks (spBack s (spTry P (ask k) k x s).1) f (some o) (some (another.getD k))
noncomputable def spRounds (P : zP) (ask : Int → zS → Int → zS × zQ) (path : List (Int × Int)) (x lvl cds : Int) : Nat → List Int → zS → Int → zS × zQ
  | 0, _, s, _ => (s, 0, none, noQ)
  | m + 1, C, s, f =>
    if C = [] then (s, 0, none, noQ)
    else match (spBest P ask path x lvl cds ((C.length : Nat) - ((bstL P.1 C).length : Nat)) (bstL P.1 C) s f none none).2.1.2.1 with
      | some _ => ((spBest P ask path x lvl cds ((C.length : Nat) - ((bstL P.1 C).length : Nat)) (bstL P.1 C) s f none none).1, (spBest P ask path x lvl cds ((C.length : Nat) - ((bstL P.1 C).length : Nat)) (bstL P.1 C) s f none none).2.1)
      | none => if ¬ (spBest P ask path x lvl cds ((C.length : Nat) - ((bstL P.1 C).length : Nat)) (bstL P.1 C) s f none none).2.1.1 = 0 then ((spBest P ask path x lvl cds ((C.length : Nat) - ((bstL P.1 C).length : Nat)) (bstL P.1 C) s f none none).1, (spBest P ask path x lvl cds ((C.length : Nat) - ((bstL P.1 C).length : Nat)) (bstL P.1 C) s f none none).2.1) else spRounds P ask path x lvl cds m (C.filter (fun k => !(bstL P.1 C).contains k)) (spBest P ask path x lvl cds ((C.length : Nat) - ((bstL P.1 C).length : Nat)) (bstL P.1 C) s f none none).1 (spBest P ask path x lvl cds ((C.length : Nat) - ((bstL P.1 C).length : Nat)) (bstL P.1 C) s f none none).2.2
noncomputable def spSeek (P : zP) (ask : Int → zS → Int → zS × zQ) (path : List (Int × Int)) (x : Int) : Nat → Int → Int → zS → zS × zQ
  | 0, _, _, s => (s, 0, none, noQ)
  | m + 1, sc, lvl, s => match (spRounds P ask path x lvl ((canL P s x sc).length : Nat) 24 (canL P s x sc) s 0).2.2.1 with
    | some _ => spRounds P ask path x lvl ((canL P s x sc).length : Nat) 24 (canL P s x sc) s 0
    | none => if ¬ (spRounds P ask path x lvl ((canL P s x sc).length : Nat) 24 (canL P s x sc) s 0).2.1 = 0 then spRounds P ask path x lvl ((canL P s x sc).length : Nat) 24 (canL P s x sc) s 0 else if tA P.1 sc = -1 then spRounds P ask path x lvl ((canL P s x sc).length : Nat) 24 (canL P s x sc) s 0 else spSeek P ask path x m (tA P.1 sc) (lvl + 1) (spRounds P ask path x lvl ((canL P s x sc).length : Nat) 24 (canL P s x sc) s 0).1
def fndM (M : zM) (sc : Int) (r : List Int) : Option Nat := M.findIdx? (fun e => decide (e.1 = sc ∧ e.2.1 = r))
def clsd (r : List Int) : Bool := r.all (fun t => decide (0 ≤ t))
noncomputable def kepI (s : zS) (i : zI) : zI := match i with
  | .inl (a, b, c, d, e, f, y, none) => .inl (a, b, c, d, e, f, y, some (rowE (hG s) (hN s) (hE s) y))
  | i => i
noncomputable def spKeep (P : zP) (r : List Int) (s0 : zS) (R : zS × zQ) : zS × zQ :=
  if (P.2.2.2.2 && clsd r) = true ∧ R.2.1 = 0 ∧ sC R.1 = sC s0 ∧ (sM R.1).length < 40 then
    match R.2.2.1 with
    | none => ((R.1.1, sM R.1 ++ [(P.2.2.2.1, r, [])], R.1.2.2), R.2)
    | some t => ((R.1.1, sM R.1 ++ [(P.2.2.2.1, r, expT (sM R.1) (t.map (kepI R.1)))], R.1.2.2), R.2.1, some (t.map (kepI R.1)), R.2.2.2)
  else R
noncomputable def askS (P : zP) : Nat → List (Int × Int) → zS → Int → zS × zQ
  | 0, _, s, _ => (s, 4, none, noQ)
  | m + 1, path, s, x =>
    if sA s = 200 then (s, 3, none, noQ)
    else if 20 ≤ path.length then (s, 4, none, noQ)
    else if 100 < (rowE (hG s) (hN s) (hE s) x).length then (s, 5, none, noQ)
    else match (if (P.2.2.2.2 && clsd (rowE (hG s) (hN s) (hE s) x)) = true then fndM (sM s) P.2.2.2.1 (rowE (hG s) (hN s) (hE s) x) else none) with
      | some j => ((s.1, sM s, sA s + 1, sMt s + 1, sC s, sTr s, max (sD s) ((path.length : Nat) + 1)), 0, (if memT (sM s) j = [] then none else some [.inr j]), noQ)
      | none => spKeep P (rowE (hG s) (hN s) (hE s) x) s (spSeek P (fun k s' y => askS P m (path ++ [(k, x)]) s' y) path x 6 P.2.2.2.1 0 (s.1, sM s, sA s + 1, sMt s, sC s, sTr s, max (sD s) ((path.length : Nat) + 1)))
