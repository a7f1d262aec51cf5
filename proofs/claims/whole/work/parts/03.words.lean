/-! What the tables say of the rows of 01: every link, every method, every instruction. -/
def ax_G : List Cond := lw_tbl.filter goodWord
theorem ax_Gin {w : Cond} (h : w ∈ lw_tbl) (hg : goodWord w = true) : w ∈ ax_G := List.mem_filter.mpr ⟨h, hg⟩
theorem ax_tin {w : Cond} {i : Nat} (h : tables_1[i]? = some w) (hg : goodWord w = true) : w ∈ ax_G := ax_Gin (List.mem_append_right _ (List.mem_of_getElem? h)) hg
def ax_FRb (r : Nat × Nat × Nat × Nat × Nat) : Bool := match ax_cl[r.2.2.1]? with
  | some q => decide (r.2.2.2.1 < q.2.2) && decide (tables_1[r.2.2.2.2]? = some (Cond.fieldLink (ax_own r.1) r.2.1 q.1 (q.2.1 r.2.2.2.1).2.1 (q.2.1 r.2.2.2.1).2.2.1)) && decide ((q.2.1 r.2.2.2.1).1 = q.1)
  | none => false
def ax_MRb (r : Nat × Nat × Nat × Nat × Nat × String) : Bool := match ax_Z[r.2.2.1]? with
  | some (mt, _) => match r.2.2.2.1 with
    | 0 => decide (tables_1[r.2.2.2.2.1]? = some (Cond.methodLink (ax_own r.1) r.2.1 mt.2.1)) && !mt.2.2.2.2.2.2.1 && decide (lw_tbl[mt.2.2.2.2.2.2.2.2.2]? = some (Cond.selects mt.2.1.cls mt.2.1 mt.2.1))
    | 1 => decide (tables_1[r.2.2.2.2.1]? = some (Cond.methodLink (ax_own r.1) r.2.1 mt.2.1)) && mt.2.2.2.2.2.2.1
    | 2 => decide (tables_1[r.2.2.2.2.1]? = some (Cond.methodLink (ax_own r.1) r.2.1 mt.2.1)) && !mt.2.2.2.2.2.2.1 && decide (mt.2.1.name = "<init>") && decide (mt.2.2.2.2.1 = none)
    | 3 => decide (tables_1[r.2.2.2.2.1]? = some (Cond.methodLink (ax_own r.1) r.2.1 objectInit))
    | 4 => decide (tables_1[r.2.2.2.2.1]? = some (Cond.methodLinkNest (ax_own r.1) r.2.1 mt.2.1 r.2.2.2.2.2)) && !mt.2.2.2.2.2.2.1 && decide (mt.2.1.name = "<init>") && decide (mt.2.2.2.2.1 = none)
    | 5 => decide (tables_1[r.2.2.2.2.1]? = some (Cond.methodLinkNest (ax_own r.1) r.2.1 mt.2.1 r.2.2.2.2.2)) && mt.2.2.2.2.2.2.1
    | 6 => decide (tables_1[r.2.2.2.2.1]? = some (Cond.methodLink (ax_own r.1) r.2.1 arraycopyName))
    | 7 => decide (tables_1[r.2.2.2.2.1]? = some (Cond.methodLink (ax_own r.1) r.2.1 Lib.Math.max.name))
    | 8 => decide (tables_1[r.2.2.2.2.1]? = some (Cond.methodLink (ax_own r.1) r.2.1 Lib.Math.min.name))
    | 9 => decide (tables_1[r.2.2.2.2.1]? = some (Cond.methodLink (ax_own r.1) r.2.1 Lib.MathLoose.min_long.x))
    | _ => false
  | none => false
def ax_CRb (r : Nat × Nat × Nat × Nat) : Bool := match ax_cl[r.2.2.1]? with
  | some q => decide (tables_1[r.2.2.2]? = some (Cond.classLink (ax_own r.1) r.2.1 q.1))
  | none => false
def ax_KRb (r : Nat × Nat × Nat × Nat) : Bool := decide (tables_1[r.2.2.2]? = some (Cond.constant (ax_own r.1) r.2.1 (Int32.ofNat r.2.2.1)))
def ax_LRb (r : Nat × Nat × Nat × Nat) : Bool := decide (tables_1[r.2.2.2]? = some (Cond.constantLong (ax_own r.1) r.2.1 (Int64.ofNat r.2.2.1)))
/-- a field of a class: its word, its type -/
def ax_lpb (ci : Nat) (C : String) (T : u_T) (z : Nat × Nat) : Bool := decide (tables_1[z.2]? = some (u_lay C T z.1)) && decide (parseFieldDescriptor (T z.1).2.2.1 = some (ax_ty ci z.1))
theorem ax_cl_nm : ax_cl.all (fun q => decide ((List.range q.2.2).map (fun k => (q.2.1 k).2.1)).Nodup) = true := by decide +kernel
theorem ax_cut {α : Type} {l : List α} {f : α → Bool} (n : Nat) (h1 : (l.take n).all f = true) (h2 : (l.drop n).all f = true) : l.all f = true := by
  rw [← List.take_append_drop n l, List.all_append, h1, h2]; rfl
/-- a method: its code word stands in the tables, its other words too -/
def ax_Mb (mt : ax_Mt) : Bool := decide (mt.2.1.cls = ax_own mt.1) && plainName mt.2.1.cls
  && decide (tables_1[mt.2.2.2.2.2.2.2.2.1]? = some (if mt.2.2.2.2.2.2.1 then Cond.static mt.2.1 else Cond.instanceMethod mt.2.1))
  && decide (mt.2.1.cls ≠ "java/lang/invoke/MethodHandle" ∧ mt.2.1.cls ≠ "java/lang/invoke/VarHandle" ∧ (parseMethodDescriptor mt.2.1.desc).map (fun d => d.parameters.length) = some mt.2.2.2.2.2.1)
def ax_Mc (mt : ax_Mt) : Prop := tables_1[mt.2.2.2.2.2.2.2.1]? = some (Cond.code mt.2.1 mt.2.2.1 mt.2.2.2.1 mt.2.2.2.2.1)
def ax_lenI (i : Instr) : Nat := match i with
  | .bipush _ => 2
  | .sipush _ => 3
  | .ldc _ => 2
  | .ldc_w _ => 3
  | .ldc2_w _ => 3
  | .iload _ => 2
  | .lload _ => 2
  | .aload _ => 2
  | .istore _ => 2
  | .lstore _ => 2
  | .astore _ => 2
  | .iinc _ _ => 3
  | .ifCond _ _ => 3
  | .if_icmp _ _ => 3
  | .goto _ => 3
  | .ifnull _ => 3
  | .ifnonnull _ => 3
  | .getfield _ => 3
  | .putfield _ => 3
  | .newarray _ => 2
  | .anewarray _ => 3
  | .new _ => 3
  | .invokevirtual _ => 3
  | .invokespecial _ => 3
  | .invokestatic _ => 3
  | _ => 1
def ax_okF (o idx : Nat) (e : ax_En) : Bool := match ax_FR[e.2.2.2.2.2]? with
  | some r => r.1 == o && r.2.1 == idx && r.2.2.1 == e.2.2.2.1 && r.2.2.2.1 == e.2.2.2.2.1
  | none => false
def ax_okM (o idx : Nat) (e : ax_En) : Bool := match ax_MR[e.2.2.2.2.2]? with
  | some r => r.1 == o && r.2.1 == idx && r.2.2.1 == e.2.2.2.1 && r.2.2.2.1 == e.2.2.2.2.1
  | none => false
def ax_ok3 (l : List (Nat × Nat × Nat × Nat)) (o idx : Nat) (e : ax_En) : Bool := match l[e.2.2.2.2.2]? with
  | some r => r.1 == o && r.2.1 == idx && r.2.2.1 == e.2.2.2.1
  | none => false
def ax_okI (o : Nat) (ini : Bool) (e : ax_En) : Bool := match e.2.1 with
  | .ifCond _ off => decide (0 ≤ (e.1 : Int) + off)
  | .if_icmp _ off => decide (0 ≤ (e.1 : Int) + off)
  | .goto off => decide (0 ≤ (e.1 : Int) + off)
  | .ifnull off => decide (0 ≤ (e.1 : Int) + off)
  | .ifnonnull off => decide (0 ≤ (e.1 : Int) + off)
  | .tableswitch d _ _ offs => decide (0 ≤ (e.1 : Int) + d) && offs.toList.all (fun off => decide (0 ≤ (e.1 : Int) + off))
  | .getfield idx => ax_okF o idx e
  | .putfield idx => ax_okF o idx e && (match ax_cl[e.2.2.2.1]? with
    | some q => !(q.2.1 e.2.2.2.2.1).2.2.2 || (ini && q.1 == ax_own o)
    | none => false)
  | .invokevirtual idx => ax_okM o idx e && e.2.2.2.2.1 == 0
  | .invokespecial idx => ax_okM o idx e && (e.2.2.2.2.1 == 2 || e.2.2.2.2.1 == 3 || e.2.2.2.2.1 == 4)
  | .invokestatic idx => ax_okM o idx e && (e.2.2.2.2.1 == 1 || e.2.2.2.2.1 == 5 || e.2.2.2.2.1 == 6 || e.2.2.2.2.1 == 7 || e.2.2.2.2.1 == 8 || e.2.2.2.2.1 == 9)
  | .new idx => ax_ok3 ax_CR o idx e
  | .anewarray idx => ax_ok3 ax_CR o idx e && e.2.2.2.1 == 0
  | .ldc idx => ax_ok3 ax_KR o idx e
  | .ldc_w idx => ax_ok3 ax_KR o idx e
  | .ldc2_w idx => ax_ok3 ax_LR o idx e
  | .newarray t => match t with
    | .int => e.2.2.2.1 == 0
    | .byte => e.2.2.2.1 == 1
    | .boolean => e.2.2.2.1 == 2
    | .long => e.2.2.2.1 == 3
    | _ => false
  | _ => true
def ax_ok (o : Nat) (ini : Bool) (bs : ByteArray) (e : ax_En) : Bool := decide (decode bs e.1 = .ok (e.2.1, e.2.2.1)) && (match e.2.1 with
  | .tableswitch _ _ _ _ => true
  | i => e.2.2.1 == ax_lenI i) && ax_okI o ini e
def ax_okm (mt : ax_Mt) (cd : List ax_En) : Bool := cd.all (ax_ok mt.1 (mt.2.1.name == "<init>") mt.2.2.1)
