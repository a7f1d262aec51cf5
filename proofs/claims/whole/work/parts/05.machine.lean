/-! The machine of this proof: cells by numbers (0 the script, 1 on the objects and arrays in the order in which they are made), a method's frame as lists. -/
abbrev ax_E : Type := (Nat × vp_A) ⊕ (Nat × (Nat → Value))
abbrev ax_H : Type := Nat × Nat × (Nat → ax_E)
abbrev ax_L : Type := List (Option Value)
def ax_no : ax_E := .inl (9, 0, .inl (fun _ => 0))
def ax_set (h : ax_H) (k : Nat) (e : ax_E) : ax_H := (h.1, h.2.1, va_up h.2.2 k e)
def ax_new (h : ax_H) (n : Nat) (e : ax_E) : ax_H := (h.1 + 1, h.2.1 + n, va_up h.2.2 h.1 e)
def ax_put (L : ax_L) (i : Nat) (v : Value) : ax_L :=
  let L1 := match i with
    | 0 => L
    | j + 1 => match L[j]? with
      | some (some w) => if w.category = 2 then L.set j none else L
      | _ => L
  let L2 := L1.set i (some v)
  if v.category = 2 then L2.set (i + 1) none else L2
def ax_ix (i : Int32) (n : Nat) : Bool := decide (¬ i < 0) && decide (i.toNatClampNeg < n)
def ax_cnd (c : Jvm.ClassFile.Cond) (x y : Int32) : Bool := match c with
  | .eq => decide (x = y)
  | .ne => decide (¬ x = y)
  | .lt => decide (x < y)
  | .ge => decide (y ≤ x)
  | .gt => decide (y < x)
  | .le => decide (x ≤ y)
def ax_to (pc : Nat) (off : Int) : Nat := ((pc : Int) + off).toNat
def ax_fit (ty : FieldType) (v : Value) : Bool := match ty, v with
  | .int, .int _ => true
  | .boolean, .int x => decide (x = 0) || decide (x = 1)
  | .object _, .ref _ => true
  | .array _, .ref _ => true
  | _, _ => false
def ax_rf (o : Option Nat) : Value := match o with
  | none => .null
  | some q => .ref q
def ax_nf (a : Nat) : Nat := match ax_cl[a]? with
  | some q => q.2.2
  | none => 0
def ax_ld (i : Nat) (L : ax_L) (k : Value → Option (Nat × ax_L × List Value × ax_H)) : Option (Nat × ax_L × List Value × ax_H) := match L[i]? with
  | some (some v) => k v
  | _ => none
/-- one instruction that is no call and no return -/
def ax_step (e : ax_En) (L : ax_L) (S : List Value) (h : ax_H) : Option (Nat × ax_L × List Value × ax_H) :=
  let nx := e.1 + e.2.2.1
  match e.2.1 with
  | .iconst n => some (nx, L, .int (Int32.ofInt n) :: S, h)
  | .bipush n => some (nx, L, .int (Int8.ofInt n).toInt32 :: S, h)
  | .sipush n => some (nx, L, .int (Int16.ofInt n).toInt32 :: S, h)
  | .lconst n => some (nx, L, .long (Int64.ofNat n.val) :: S, h)
  | .ldc _ => some (nx, L, .int (Int32.ofNat e.2.2.2.1) :: S, h)
  | .ldc_w _ => some (nx, L, .int (Int32.ofNat e.2.2.2.1) :: S, h)
  | .ldc2_w _ => some (nx, L, .long (Int64.ofNat e.2.2.2.1) :: S, h)
  | .iload i => ax_ld i L fun v => match v with | .int x => some (nx, L, .int x :: S, h) | _ => none
  | .iload_n i => ax_ld i.val L fun v => match v with | .int x => some (nx, L, .int x :: S, h) | _ => none
  | .lload i => ax_ld i L fun v => match v with | .long x => some (nx, L, .long x :: S, h) | _ => none
  | .lload_n i => ax_ld i.val L fun v => match v with | .long x => some (nx, L, .long x :: S, h) | _ => none
  | .aload i => ax_ld i L fun v => match v with | .ref x => some (nx, L, .ref x :: S, h) | _ => none
  | .aload_n i => ax_ld i.val L fun v => match v with | .ref x => some (nx, L, .ref x :: S, h) | _ => none
  | .istore i => match S with | .int x :: S => if i < L.length then some (nx, ax_put L i (.int x), S, h) else none | _ => none
  | .istore_n i => match S with | .int x :: S => if i.val < L.length then some (nx, ax_put L i.val (.int x), S, h) else none | _ => none
  | .lstore i => match S with | .long x :: S => if i + 1 < L.length then some (nx, ax_put L i (.long x), S, h) else none | _ => none
  | .lstore_n i => match S with | .long x :: S => if i.val + 1 < L.length then some (nx, ax_put L i.val (.long x), S, h) else none | _ => none
  | .astore i => match S with | .ref x :: S => if i < L.length then some (nx, ax_put L i (.ref x), S, h) else none | _ => none
  | .astore_n i => match S with | .ref x :: S => if i.val < L.length then some (nx, ax_put L i.val (.ref x), S, h) else none | _ => none
  | .iinc i n => ax_ld i L fun v => match v with | .int x => some (nx, ax_put L i (.int (x + Int32.ofInt n)), S, h) | _ => none
  | .iadd => match S with | .int y :: .int x :: S => some (nx, L, .int (x + y) :: S, h) | _ => none
  | .isub => match S with | .int y :: .int x :: S => some (nx, L, .int (x - y) :: S, h) | _ => none
  | .imul => match S with | .int y :: .int x :: S => some (nx, L, .int (x * y) :: S, h) | _ => none
  | .iand => match S with | .int y :: .int x :: S => some (nx, L, .int (x &&& y) :: S, h) | _ => none
  | .ior => match S with | .int y :: .int x :: S => some (nx, L, .int (x ||| y) :: S, h) | _ => none
  | .ixor => match S with | .int y :: .int x :: S => some (nx, L, .int (x ^^^ y) :: S, h) | _ => none
  | .ishl => match S with | .int y :: .int x :: S => some (nx, L, .int (x <<< (y &&& 31)) :: S, h) | _ => none
  | .ishr => match S with | .int y :: .int x :: S => some (nx, L, .int (x >>> (y &&& 31)) :: S, h) | _ => none
  | .iushr => match S with | .int y :: .int x :: S => some (nx, L, .int (x.toUInt32 >>> (y.toUInt32 &&& Int32.toUInt32 31)).toInt32 :: S, h) | _ => none
  | .idiv => match S with | .int y :: .int x :: S => if y = 0 then none else some (nx, L, .int (x / y) :: S, h) | _ => none
  | .irem => match S with | .int y :: .int x :: S => if y = 0 then none else some (nx, L, .int (x - x / y * y) :: S, h) | _ => none
  | .ladd => match S with | .long y :: .long x :: S => some (nx, L, .long (x + y) :: S, h) | _ => none
  | .lmul => match S with | .long y :: .long x :: S => some (nx, L, .long (x * y) :: S, h) | _ => none
  | .lcmp => match S with | .long y :: .long x :: S => some (nx, L, .int (lg_cmp x y) :: S, h) | _ => none
  | .i2l => match S with | .int x :: S => some (nx, L, .long x.toInt64 :: S, h) | _ => none
  | .l2i => match S with | .long x :: S => some (nx, L, .int x.toInt32 :: S, h) | _ => none
  | .i2b => match S with | .int x :: S => some (nx, L, .int x.toInt8.toInt32 :: S, h) | _ => none
  | .dup => match S with | v :: S => if v.category = 1 then some (nx, L, v :: v :: S, h) else none | _ => none
  | .pop => match S with | v :: S => if v.category = 1 then some (nx, L, S, h) else none | _ => none
  | .dup2 => match S with | v :: w :: S => if v.category = 1 ∧ w.category = 1 then some (nx, L, v :: w :: v :: w :: S, h) else none | _ => none
  | .ifCond c off => match S with | .int x :: S => some (if ax_cnd c x 0 then ax_to e.1 off else nx, L, S, h) | _ => none
  | .if_icmp c off => match S with | .int y :: .int x :: S => some (if ax_cnd c x y then ax_to e.1 off else nx, L, S, h) | _ => none
  | .goto off => some (ax_to e.1 off, L, S, h)
  | .ifnull off => match S with | .null :: S => some (ax_to e.1 off, L, S, h) | .ref _ :: S => some (nx, L, S, h) | _ => none
  | .ifnonnull off => match S with | .null :: S => some (nx, L, S, h) | .ref _ :: S => some (ax_to e.1 off, L, S, h) | _ => none
  | .tableswitch d lo hi offs => match S with
    | .int x :: S => if x.toInt < lo ∨ hi < x.toInt then some (ax_to e.1 d, L, S, h) else match offs.toList[(x.toInt - lo).toNat]? with
      | some off => some (ax_to e.1 off, L, S, h)
      | none => none
    | _ => none
  | .getfield _ => match S with
    | .ref k :: S => match h.2.2 k with
      | .inr (ci, f) => if ci = e.2.2.2.1 then some (nx, L, f e.2.2.2.2.1 :: S, h) else none
      | _ => none
    | _ => none
  | .putfield _ => match S with
    | v :: .ref k :: S => match h.2.2 k with
      | .inr (ci, f) => if ci = e.2.2.2.1 ∧ ax_fit (ax_ty ci e.2.2.2.2.1) v = true then some (nx, L, S, ax_set h k (.inr (ci, va_up f e.2.2.2.2.1 v))) else none
      | _ => none
    | _ => none
  | .arraylength => match S with
    | .ref k :: S => match h.2.2 k with
      | .inl (t, n, _) => if t ≤ 4 then some (nx, L, .int (Int32.ofNat n) :: S, h) else none
      | _ => none
    | _ => none
  | .iaload => match S with
    | .int i :: .ref k :: S => match h.2.2 k with
      | .inl (t, n, .inl f) => if t = 0 ∧ ax_ix i n = true then some (nx, L, .int (f i.toNatClampNeg) :: S, h) else none
      | _ => none
    | _ => none
  | .iastore => match S with
    | .int x :: .int i :: .ref k :: S => match h.2.2 k with
      | .inl (t, n, .inl f) => if t = 0 ∧ ax_ix i n = true ∧ ¬ k = 0 then some (nx, L, S, ax_set h k (.inl (t, n, .inl (upd f i.toNatClampNeg x)))) else none
      | _ => none
    | _ => none
  | .baload => match S with
    | .int i :: .ref k :: S => match h.2.2 k with
      | .inl (t, n, .inl f) => if (t = 1 ∨ t = 2) ∧ ax_ix i n = true then some (nx, L, .int (f i.toNatClampNeg) :: S, h) else none
      | _ => none
    | _ => none
  | .bastore => match S with
    | .int x :: .int i :: .ref k :: S => match h.2.2 k with
      | .inl (t, n, .inl f) => if (t = 1 ∨ t = 2) ∧ ax_ix i n = true then some (nx, L, S, ax_set h k (.inl (t, n, .inl (upd f i.toNatClampNeg (vp_nar (if t = 1 then .byte else .boolean) x))))) else none
      | _ => none
    | _ => none
  | .laload => match S with
    | .int i :: .ref k :: S => match h.2.2 k with
      | .inl (t, n, .inr (.inl f)) => if t = 3 ∧ ax_ix i n = true then some (nx, L, .long (f i.toNatClampNeg) :: S, h) else none
      | _ => none
    | _ => none
  | .lastore => match S with
    | .long x :: .int i :: .ref k :: S => match h.2.2 k with
      | .inl (t, n, .inr (.inl f)) => if t = 3 ∧ ax_ix i n = true then some (nx, L, S, ax_set h k (.inl (t, n, .inr (.inl (vp_updL f i.toNatClampNeg x))))) else none
      | _ => none
    | _ => none
  | .aaload => match S with
    | .int i :: .ref k :: S => match h.2.2 k with
      | .inl (t, n, .inr (.inr (.inr (.inr f)))) => if t = 4 ∧ ax_ix i n = true then some (nx, L, ax_rf (f i.toNatClampNeg) :: S, h) else none
      | _ => none
    | _ => none
  | .aastore => match S with
    | .ref v :: .int i :: .ref k :: S => match h.2.2 k, h.2.2 v with
      | .inl (t, n, .inr (.inr (.inr (.inr f)))), .inr (ci, _) => if t = 4 ∧ ci = 0 ∧ ax_ix i n = true then some (nx, L, S, ax_set h k (.inl (t, n, .inr (.inr (.inr (.inr (va_up f i.toNatClampNeg (some v)))))))) else none
      | _, _ => none
    | _ => none
  | .newarray _ => match S with
    | .int n :: S => if ¬ n < 0 ∧ n.toNatClampNeg ≤ 2000000 then some (nx, L, .ref h.1 :: S, ax_new h n.toNatClampNeg (.inl (e.2.2.2.1, n.toNatClampNeg, if e.2.2.2.1 = 3 then .inr (.inl (fun _ => 0)) else .inl (fun _ => 0)))) else none
    | _ => none
  | .anewarray _ => match S with
    | .int n :: S => if ¬ n < 0 ∧ n.toNatClampNeg ≤ 2000000 then some (nx, L, .ref h.1 :: S, ax_new h n.toNatClampNeg (.inl (4, n.toNatClampNeg, .inr (.inr (.inr (.inr (fun _ => none))))))) else none
    | _ => none
  | .new _ => some (nx, L, .ref h.1 :: S, ax_new h (ax_nf e.2.2.2.1) (.inr (e.2.2.2.1, fun j => defaultValue (ax_ty e.2.2.2.1 j))))
  | .invokespecial _ => match S with
    | .ref _ :: S => if e.2.2.2.2.1 = 3 then some (nx, L, S, h) else none
    | _ => none
  | .invokestatic _ => match e.2.2.2.2.1 with
    | 7 => match S with
      | .int y :: .int x :: S => some (nx, L, .int (if x < y then y else x) :: S, h)
      | _ => none
    | 8 => match S with
      | .int y :: .int x :: S => some (nx, L, .int (if y < x then y else x) :: S, h)
      | _ => none
    | 9 => match S with
      | .long y :: .long x :: S => some (nx, L, .long (if y < x then y else x) :: S, h)
      | _ => none
    | 6 => match S with
      | .int n :: .int dp :: .ref kd :: .int sp :: .ref ks :: S => match h.2.2 ks, h.2.2 kd with
        | .inl (t, ns, .inl f), .inl (t', nd, .inl g) => if t = 0 ∧ t' = 0 ∧ ¬ kd = 0 ∧ ¬ ks = 0 ∧ ¬ sp < 0 ∧ ¬ dp < 0 ∧ ¬ n < 0 ∧ sp.toNatClampNeg + n.toNatClampNeg ≤ ns ∧ dp.toNatClampNeg + n.toNatClampNeg ≤ nd
            then some (nx, L, S, ax_set h kd (.inl (0, nd, .inl (va_cpy f g sp.toNatClampNeg dp.toNatClampNeg n.toNatClampNeg)))) else none
        | _, _ => none
      | _ => none
    | _ => none
  | _ => none
def ax_ret (rt : Option FieldType) (e : ax_En) (S : List Value) (h : ax_H) : Option (Option Value × ax_H) := match e.2.1, S with
  | .ireturn, [.int v] => if rt = some .int ∨ (rt = some .boolean ∧ (v = 0 ∨ v = 1)) then some (some (.int v), h) else none
  | .lreturn, [.long v] => if rt = some .long then some (some (.long v), h) else none
  | .areturn, [.ref k] => match rt with
    | some (.array _) => some (some (.ref k), h)
    | some (.object _) => some (some (.ref k), h)
    | _ => none
  | .return_, [] => if rt = none then some (none, h) else none
  | _, _ => none
/-- 0 a return, 1 a call, 2 a step, 3 a step that wants a frame -/
def ax_ctl (e : ax_En) : Nat := match e.2.1 with
  | .ireturn => 0
  | .lreturn => 0
  | .areturn => 0
  | .return_ => 0
  | .invokevirtual _ => 1
  | .invokestatic _ => if 6 ≤ e.2.2.2.2.1 then 3 else 1
  | .invokespecial _ => if e.2.2.2.2.1 = 3 then 3 else 1
  | _ => 2
def ax_fd (cd : List ax_En) (pc : Nat) : Option ax_En := match cd with
  | [] => none
  | e :: cd => if e.1 = pc then some e else ax_fd cd pc
def ax_sl (as : List Value) : ax_L := match as with
  | [] => []
  | v :: as => if v.category = 2 then some v :: none :: ax_sl as else some v :: ax_sl as
def ax_ent (nL : Nat) (as : List Value) : ax_L := ax_sl as ++ List.replicate (nL - (ax_sl as).length) none
def ax_cat (S : List Value) : Nat := (S.map fun v => v.category).sum
def ax_rc (mt : ax_Mt) (k : Nat) (as : List Value) (h : ax_H) : Bool := if k = 1 ∨ k = 5 then true else match as with
  | .ref q :: _ => match h.2.2 q with
    | .inr (ci, _) => decide (ci = mt.1)
    | _ => false
  | _ => false
def ax_na (mt : ax_Mt) : Nat := mt.2.2.2.2.2.1 + (if mt.2.2.2.2.2.2.1 then 0 else 1)
def ax_run : Nat → Nat → Nat → List ax_En → Option FieldType → Nat → ax_L → List Value → ax_H → Option (Option Value × ax_H)
  | 0, _, _, _, _, _, _, _, _ => none
  | n + 1, fr, lo, cd, rt, pc, L, S, h => match ax_fd cd pc with
    | none => none
    | some e => match ax_ctl e with
      | 0 => ax_ret rt e S h
      | 1 => match ax_Z[e.2.2.2.1]? with
        | some (mt, cd1) =>
          if (S.take (ax_na mt)).length = ax_na mt ∧ ax_rc mt e.2.2.2.2.1 (S.take (ax_na mt)).reverse h = true ∧ ax_cat (S.drop (ax_na mt)) ≤ 8 ∧ 1 ≤ fr ∧ 8 + (mt.2.2.2.1 + 11) ≤ lo ∧ (ax_sl (S.take (ax_na mt)).reverse).length ≤ mt.2.2.2.1 then
            match ax_run n (fr - 1) (lo - (8 + (mt.2.2.2.1 + 11))) cd1 mt.2.2.2.2.1 0 (ax_ent mt.2.2.2.1 (S.take (ax_na mt)).reverse) [] h with
            | some (r, h1) => ax_run n fr lo cd rt (pc + 3) L (r.toList ++ S.drop (ax_na mt)) h1
            | none => none
          else none
        | none => none
      | 2 => match ax_step e L S h with
        | some q => ax_run n fr lo cd rt q.1 q.2.1 q.2.2.1 q.2.2.2
        | none => none
      | _ => if 1 ≤ fr ∧ 100 ≤ lo ∧ ax_cat S ≤ 20 then match ax_step e L S h with
        | some q => ax_run n fr lo cd rt q.1 q.2.1 q.2.2.1 q.2.2.2
        | none => none
        else none
