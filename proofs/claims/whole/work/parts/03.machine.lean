/-! An executable machine of our own over small memories: values are ints, or references (0: null, a + 1: the cell a). -/
abbrev zV : Type := Int32 ⊕ Nat
abbrev zM : Type := (Nat × Nat × Nat) × (Nat → Nat × Nat) × (Nat → Nat → Int32) × (Nat → Nat → Nat)
abbrev zR : Type := Int32 × Nat × zM
abbrev zL : Type := List (Option zV)
abbrev zE : Type := ClassFile.Instr × Nat × Nat × Nat × Nat
abbrev zO : Type := List (Option zE)
abbrev zF3 : Type := Nat → List zV → zM → Option zR
abbrev zK4 : Type := Nat → zL → List zV → zM → Option zR
def znth {α : Type} : List α → Nat → Option α
  | [], _ => none
  | a :: _, 0 => some a
  | _ :: l, n + 1 => znth l n
def zlget (L : zL) (i : Nat) : Option zV := match znth L i with
  | some (some v) => some v
  | _ => none
def zlset : zL → Nat → zV → Option zL
  | [], _, _ => none
  | _ :: l, 0, v => some (some v :: l)
  | a :: l, n + 1, v => match zlset l n v with
    | some l' => some (a :: l')
    | none => none
def zpop : Nat → List zV → List zV → Option (List zV × List zV)
  | 0, acc, st => some (acc, st)
  | n + 1, acc, v :: st => zpop n (v :: acc) st
  | _ + 1, _, [] => none
def zshort : Nat → List zV → Bool
  | _, [] => true
  | 0, _ :: _ => false
  | n + 1, _ :: l => zshort n l
/-- loop heads, each with how many locals are in use there -/
def zcut : List (Nat × Nat) → Nat → Option Nat
  | [], _ => none
  | (a, k) :: l, n => match Nat.beq a n with
    | true => some k
    | false => zcut l n
def ztrim : Nat → zL → zL
  | _, [] => []
  | 0, _ :: l => none :: ztrim 0 l
  | n + 1, a :: l => a :: ztrim n l
def zpush (k : Nat) (r : zR) (st : List zV) : List zV := match k with
  | 0 => st
  | 1 => .inl r.1 :: st
  | _ => .inr r.2.1 :: st
-- memory: ((next cell, cells made, slots made), (kind, length) of a cell, ints, references)
-- kinds: 0 nothing; c + 1 an object of the class c; 101 int[], 102 byte[], 103 boolean[], 104 .. 107 arrays of objects; 200 the script
def zK (h : zM) (a : Nat) : Nat := (h.2.1 a).1
def zN (h : zM) (a : Nat) : Nat := (h.2.1 a).2
def zI (h : zM) (a k : Nat) : Int32 := h.2.2.1 a k
def zF (h : zM) (a k : Nat) : Nat := h.2.2.2 a k
def zsI (h : zM) (a k : Nat) (x : Int32) : zM := (h.1, h.2.1, va_up h.2.2.1 a (upd (h.2.2.1 a) k x), h.2.2.2)
def zsF (h : zM) (a k : Nat) (r : Nat) : zM := (h.1, h.2.1, h.2.2.1, va_up h.2.2.2 a (va_up (h.2.2.2 a) k r))
def zgI (h : zM) (a c k : Nat) : Option Int32 := if zK h a = c + 1 then some (zI h a k) else none
def zgF (h : zM) (a c k : Nat) : Option Nat := if zK h a = c + 1 then some (zF h a k) else none
def zpI (h : zM) (a c k : Nat) (x : Int32) : Option zM := if zK h a = c + 1 then some (zsI h a k x) else none
def zpZ (h : zM) (a c k : Nat) (x : Int32) : Option zM := if zK h a = c + 1 ∧ (x = 0 ∨ x = 1) then some (zsI h a k x) else none
def zpF (h : zM) (a c k : Nat) (r : Nat) : Option zM := if zK h a = c + 1 then some (zsF h a k r) else none
def zia (h : zM) (a : Nat) (i : Int32) : Option Int32 := if (zK h a = 101 ∨ zK h a = 200) ∧ ¬ (i < 0 ∨ zN h a ≤ i.toNatClampNeg) then some (zI h a i.toNatClampNeg) else none
def zba (h : zM) (a : Nat) (i : Int32) : Option Int32 := if (zK h a = 102 ∨ zK h a = 103) ∧ ¬ (i < 0 ∨ zN h a ≤ i.toNatClampNeg) then some (zI h a i.toNatClampNeg) else none
def zaa (h : zM) (a : Nat) (i : Int32) : Option Nat := if (104 ≤ zK h a ∧ zK h a < 108) ∧ ¬ (i < 0 ∨ zN h a ≤ i.toNatClampNeg) then some (zF h a i.toNatClampNeg) else none
def zis (h : zM) (a : Nat) (i x : Int32) : Option zM := if zK h a = 101 ∧ ¬ (i < 0 ∨ zN h a ≤ i.toNatClampNeg) then some (zsI h a i.toNatClampNeg x) else none
def zbs (h : zM) (a : Nat) (i x : Int32) : Option zM :=
  if zK h a = 102 ∧ ¬ (i < 0 ∨ zN h a ≤ i.toNatClampNeg) then some (zsI h a i.toNatClampNeg (vp_nar .byte x))
  else if zK h a = 103 ∧ ¬ (i < 0 ∨ zN h a ≤ i.toNatClampNeg) then some (zsI h a i.toNatClampNeg (vp_nar .boolean x)) else none
/-- the class of what an array of objects holds: Word, Machine, Pair, TwoLeast -/
def zel (k : Nat) : Nat := match k with
  | 104 => 10
  | 105 => 2
  | 106 => 4
  | _ => 8
def zas (h : zM) (a : Nat) (i : Int32) (r : Nat) : Option zM := if (104 ≤ zK h a ∧ zK h a < 108) ∧ ¬ (i < 0 ∨ zN h a ≤ i.toNatClampNeg) ∧ zK h r = zel (zK h a) + 1 then some (zsF h a i.toNatClampNeg r) else none
def zal (h : zM) (a : Nat) : Option Int32 := if (101 ≤ zK h a ∧ zK h a < 108) ∨ zK h a = 200 then some (Int32.ofNat (zN h a)) else none
def zmk (h : zM) (k n : Nat) : zM := ((h.1.1 + 1, h.1.2.1 + 1, h.1.2.2 + n), va_up h.2.1 h.1.1 (k, n), va_up h.2.2.1 h.1.1 (fun _ => 0), va_up h.2.2.2 h.1.1 (fun _ => 0))
def zna (h : zM) (k : Nat) (n : Int32) : Option zM := if n < 0 ∨ 1000000 < n.toNatClampNeg then none else some (zmk h k n.toNatClampNeg)
def zcp (h : zM) (a0 : Nat) (sp : Int32) (a : Nat) (dp n : Int32) : Option zM :=
  if (zK h a0 = 101 ∧ zK h a = 101) ∧ (¬ sp < 0 ∧ ¬ dp < 0 ∧ ¬ n < 0) ∧ sp.toNatClampNeg + n.toNatClampNeg ≤ zN h a0 ∧ dp.toNatClampNeg + n.toNatClampNeg ≤ zN h a
  then some (h.1, h.2.1, va_up h.2.2.1 a (va_cpy (h.2.2.1 a0) (h.2.2.1 a) sp.toNatClampNeg dp.toNatClampNeg n.toNatClampNeg), h.2.2.2) else none
-- one instruction, by what goes on behind it
def zo_load (L : zL) (i : Nat) (κ : List zV → Option zR) (st : List zV) : Option zR := match zlget L i with
  | some (.inl x) => κ (.inl x :: st)
  | _ => none
def zo_aload (L : zL) (i : Nat) (κ : List zV → Option zR) (st : List zV) : Option zR := match zlget L i with
  | some (.inr x) => κ (.inr x :: st)
  | _ => none
def zo_store (L : zL) (i : Nat) (κ : zL → List zV → Option zR) (st : List zV) : Option zR := match st with
  | .inl x :: r => match zlset L i (.inl x) with
    | some L' => κ L' r
    | none => none
  | _ => none
def zo_astore (L : zL) (i : Nat) (κ : zL → List zV → Option zR) (st : List zV) : Option zR := match st with
  | .inr x :: r => match zlset L i (.inr x) with
    | some L' => κ L' r
    | none => none
  | _ => none
def zo_iinc (L : zL) (i : Nat) (d : Int32) (κ : zL → Option zR) : Option zR := match zlget L i with
  | some (.inl x) => match zlset L i (.inl (x + d)) with
    | some L' => κ L'
    | none => none
  | _ => none
def zo_bin (o : Int32 → Int32 → Int32) (κ : List zV → Option zR) (st : List zV) : Option zR := match st with
  | .inl y :: .inl x :: r => κ (.inl (o x y) :: r)
  | _ => none
def zo_div (o : Int32 → Int32 → Int32) (κ : List zV → Option zR) (st : List zV) : Option zR := match st with
  | .inl y :: .inl x :: r => if y = 0 then none else κ (.inl (o x y) :: r)
  | _ => none
def zo_un (o : Int32 → Int32) (κ : List zV → Option zR) (st : List zV) : Option zR := match st with
  | .inl x :: r => κ (.inl (o x) :: r)
  | _ => none
def zcond (q : ClassFile.Cond) (x y : Int32) (kt kf : Option zR) : Option zR := match q with
  | .eq => if x = y then kt else kf
  | .ne => if x = y then kf else kt
  | .lt => if x < y then kt else kf
  | .ge => if x < y then kf else kt
  | .gt => if y < x then kt else kf
  | .le => if y < x then kf else kt
def zo_if (q : ClassFile.Cond) (κt κf : List zV → Option zR) (st : List zV) : Option zR := match st with
  | .inl x :: r => zcond q x 0 (κt r) (κf r)
  | _ => none
def zo_icmp (q : ClassFile.Cond) (κt κf : List zV → Option zR) (st : List zV) : Option zR := match st with
  | .inl y :: .inl x :: r => zcond q x y (κt r) (κf r)
  | _ => none
def zo_null (κt κf : List zV → Option zR) (st : List zV) : Option zR := match st with
  | .inr x :: r => if x = 0 then κt r else κf r
  | _ => none
/-- a table of goals for 0, 1, 2 ..; beyond it the other goal -/
def zo_table (κ : Nat → Option zR) (x : Int32) (d : Nat) : List Nat → Int32 → Option zR
  | [], _ => κ d
  | t :: ts, i => if x = i then κ t else zo_table κ x d ts (i + 1)
def zo_sw (κ : Nat → List zV → Option zR) (d : Nat) (ts : List Nat) (st : List zV) : Option zR := match st with
  | .inl x :: r => zo_table (fun t => κ t r) x d ts 0
  | _ => none
def zo_get (h : zM) (c k ty : Nat) (κ : List zV → Option zR) (st : List zV) : Option zR := match st with
  | .inr a :: r => match ty with
    | 1 => (zgF h a c k).bind fun x => κ (.inr x :: r)
    | _ => (zgI h a c k).bind fun x => κ (.inl x :: r)
  | _ => none
def zo_put (h : zM) (c k ty : Nat) (κ : List zV → zM → Option zR) (st : List zV) : Option zR := match ty with
  | 1 => match st with
    | .inr x :: .inr a :: r => (zpF h a c k x).bind fun h' => κ r h'
    | _ => none
  | 0 => match st with
    | .inl x :: .inr a :: r => (zpI h a c k x).bind fun h' => κ r h'
    | _ => none
  | _ => match st with
    | .inl x :: .inr a :: r => (zpZ h a c k x).bind fun h' => κ r h'
    | _ => none
def zo_ald (g : Nat → Int32 → Option Int32) (κ : List zV → Option zR) (st : List zV) : Option zR := match st with
  | .inl i :: .inr a :: r => (g a i).bind fun x => κ (.inl x :: r)
  | _ => none
def zo_aald (h : zM) (κ : List zV → Option zR) (st : List zV) : Option zR := match st with
  | .inl i :: .inr a :: r => (zaa h a i).bind fun x => κ (.inr x :: r)
  | _ => none
def zo_ast (g : Nat → Int32 → Int32 → Option zM) (κ : List zV → zM → Option zR) (st : List zV) : Option zR := match st with
  | .inl x :: .inl i :: .inr a :: r => (g a i x).bind fun h' => κ r h'
  | _ => none
def zo_aast (h : zM) (κ : List zV → zM → Option zR) (st : List zV) : Option zR := match st with
  | .inr x :: .inl i :: .inr a :: r => (zas h a i x).bind fun h' => κ r h'
  | _ => none
def zo_len (h : zM) (κ : List zV → Option zR) (st : List zV) : Option zR := match st with
  | .inr a :: r => (zal h a).bind fun x => κ (.inl x :: r)
  | _ => none
def zo_na (h : zM) (k : Nat) (κ : List zV → zM → Option zR) (st : List zV) : Option zR := match st with
  | .inl n :: r => (zna h k n).bind fun h' => κ (.inr h.1.1 :: r) h'
  | _ => none
def zo_dup (κ : List zV → Option zR) (st : List zV) : Option zR := match st with
  | v :: r => κ (v :: v :: r)
  | _ => none
def zo_dup2 (κ : List zV → Option zR) (st : List zV) : Option zR := match st with
  | v :: w :: r => κ (v :: w :: v :: w :: r)
  | _ => none
def zo_pop (κ : List zV → Option zR) (st : List zV) : Option zR := match st with
  | _ :: r => κ r
  | _ => none
def zo_iret (ty : Nat) (h : zM) (st : List zV) : Option zR := match st with
  | [.inl x] => match ty with
    | 0 => some (x, 0, h)
    | _ => if x = 0 ∨ x = 1 then some (x, 0, h) else none
  | _ => none
def zo_aret (h : zM) (st : List zV) : Option zR := match st with
  | [.inr x] => some (0, x, h)
  | _ => none
def zo_vret (h : zM) (st : List zV) : Option zR := match st with
  | [] => some (0, 0, h)
  | _ => none
def zo_cs (f : zF3) (j na rk : Nat) (h : zM) (κ : List zV → zM → Option zR) (st : List zV) : Option zR := match zpop na [] st with
  | some (as, r) => match zshort 8 r with
    | true => (f j as h).bind fun u => κ (zpush rk u r) u.2.2
    | false => none
  | none => none
def zo_cv (f : zF3) (j na rk rc : Nat) (h : zM) (κ : List zV → zM → Option zR) (st : List zV) : Option zR := match zpop (na + 1) [] st with
  | some (.inr a :: as, r) => match zshort 8 r with
    | true => if zK h a = rc then (f j (.inr a :: as) h).bind fun u => κ (zpush rk u r) u.2.2 else none
    | false => none
  | _ => none
def zo_copy (h : zM) (κ : List zV → zM → Option zR) (st : List zV) : Option zR := match st with
  | .inl n :: .inl dp :: .inr a :: .inl sp :: .inr a0 :: r => match zshort 4 r with
    | true => (zcp h a0 sp a dp n).bind fun h' => κ r h'
    | false => none
  | _ => none
def zo_obj (h : zM) (κ : List zV → Option zR) (st : List zV) : Option zR := match st with
  | .inr a :: r => match zshort 8 r with
    | true => if a = 0 then none else κ r
    | false => none
  | _ => none
def zatk (t : ClassFile.ArrayType) : Nat := match t with
  | .int => 101
  | .byte => 102
  | .boolean => 103
  | _ => 0
/-- places: a1 .. a4 tell of a jump its goal; of a field class, place, kind, word; of a call callee, number of arguments, what comes back, the receiver's class + 1 (0: static) -/
def zone (f : zF3) (ops : zO) (κ : zK4) (pc : Nat) (L : zL) (st : List zV) (h : zM) : Option zR := match znth ops pc with
  | some (some (i, a1, a2, a3, a4)) => match i with
    | .iload_n k => zo_load L k (fun s => κ (pc + 1) L s h) st
    | .iload k => zo_load L k (fun s => κ (pc + 2) L s h) st
    | .aload_n k => zo_aload L k (fun s => κ (pc + 1) L s h) st
    | .aload k => zo_aload L k (fun s => κ (pc + 2) L s h) st
    | .istore_n k => zo_store L k (fun M s => κ (pc + 1) M s h) st
    | .istore k => zo_store L k (fun M s => κ (pc + 2) M s h) st
    | .astore_n k => zo_astore L k (fun M s => κ (pc + 1) M s h) st
    | .astore k => zo_astore L k (fun M s => κ (pc + 2) M s h) st
    | .iinc k d => zo_iinc L k (Int32.ofInt d) (fun M => κ (pc + 3) M st h)
    | .iconst n => κ (pc + 1) L (.inl (Int32.ofInt n) :: st) h
    | .bipush n => κ (pc + 2) L (.inl (Int8.ofInt n).toInt32 :: st) h
    | .sipush n => κ (pc + 3) L (.inl (Int16.ofInt n).toInt32 :: st) h
    | .ldc _ => κ (pc + 2) L (.inl (Int32.ofNat a1) :: st) h
    | .ldc_w _ => κ (pc + 3) L (.inl (Int32.ofNat a1) :: st) h
    | .aconst_null => κ (pc + 1) L (.inr 0 :: st) h
    | .iadd => zo_bin (fun x y => x + y) (fun s => κ (pc + 1) L s h) st
    | .isub => zo_bin (fun x y => x - y) (fun s => κ (pc + 1) L s h) st
    | .imul => zo_bin (fun x y => x * y) (fun s => κ (pc + 1) L s h) st
    | .iand => zo_bin (fun x y => x &&& y) (fun s => κ (pc + 1) L s h) st
    | .ior => zo_bin (fun x y => x ||| y) (fun s => κ (pc + 1) L s h) st
    | .ixor => zo_bin (fun x y => x ^^^ y) (fun s => κ (pc + 1) L s h) st
    | .ishl => zo_bin (fun x y => x <<< (y &&& 31)) (fun s => κ (pc + 1) L s h) st
    | .ishr => zo_bin (fun x y => x >>> (y &&& 31)) (fun s => κ (pc + 1) L s h) st
    | .iushr => zo_bin (fun x y => (x.toUInt32 >>> (y.toUInt32 &&& Int32.toUInt32 31)).toInt32) (fun s => κ (pc + 1) L s h) st
    | .idiv => zo_div (fun x y => x / y) (fun s => κ (pc + 1) L s h) st
    | .irem => zo_div (fun x y => x - x / y * y) (fun s => κ (pc + 1) L s h) st
    | .i2b => zo_un (fun x => x.toInt8.toInt32) (fun s => κ (pc + 1) L s h) st
    | .ifCond q _ => zo_if q (fun s => κ a1 L s h) (fun s => κ (pc + 3) L s h) st
    | .if_icmp q _ => zo_icmp q (fun s => κ a1 L s h) (fun s => κ (pc + 3) L s h) st
    | .ifnull _ => zo_null (fun s => κ a1 L s h) (fun s => κ (pc + 3) L s h) st
    | .ifnonnull _ => zo_null (fun s => κ (pc + 3) L s h) (fun s => κ a1 L s h) st
    | .goto _ => κ a1 L st h
    | .tableswitch d _ _ offs => zo_sw (fun t r => κ t L r h) ((pc : Int) + d).toNat (offs.toList.map fun o => ((pc : Int) + o).toNat) st
    | .getfield _ => zo_get h a1 a2 a3 (fun s => κ (pc + 3) L s h) st
    | .putfield _ => zo_put h a1 a2 a3 (fun s g => κ (pc + 3) L s g) st
    | .iaload => zo_ald (zia h) (fun s => κ (pc + 1) L s h) st
    | .baload => zo_ald (zba h) (fun s => κ (pc + 1) L s h) st
    | .aaload => zo_aald h (fun s => κ (pc + 1) L s h) st
    | .iastore => zo_ast (zis h) (fun s g => κ (pc + 1) L s g) st
    | .bastore => zo_ast (zbs h) (fun s g => κ (pc + 1) L s g) st
    | .aastore => zo_aast h (fun s g => κ (pc + 1) L s g) st
    | .arraylength => zo_len h (fun s => κ (pc + 1) L s h) st
    | .new _ => κ (pc + 3) L (.inr h.1.1 :: st) (zmk h (a1 + 1) a2)
    | .newarray t => zo_na h (zatk t) (fun s g => κ (pc + 2) L s g) st
    | .anewarray _ => zo_na h a1 (fun s g => κ (pc + 3) L s g) st
    | .dup => zo_dup (fun s => κ (pc + 1) L s h) st
    | .dup2 => zo_dup2 (fun s => κ (pc + 1) L s h) st
    | .pop => zo_pop (fun s => κ (pc + 1) L s h) st
    | .ireturn => zo_iret a1 h st
    | .areturn => zo_aret h st
    | .return_ => zo_vret h st
    | .invokestatic _ => match a4 with
      | 0 => zo_cs f a1 a2 a3 h (fun s g => κ (pc + 3) L s g) st
      | _ => zo_copy h (fun s g => κ (pc + 3) L s g) st
    | .invokevirtual _ => zo_cv f a1 a2 a3 a4 h (fun s g => κ (pc + 3) L s g) st
    | .invokespecial _ => match a4 with
      | 0 => zo_obj h (fun s => κ (pc + 3) L s h) st
      | _ => zo_cv f a1 a2 0 a4 h (fun s g => κ (pc + 3) L s g) st
    | _ => none
  | _ => none
def zexec (f : zF3) (ops : zO) (cuts : List (Nat × Nat)) (κ : zK4) : Nat → zK4
  | 0, pc, L, st, h => κ pc L st h
  | n + 1, pc, L, st, h => zone f ops (fun pc' L' st' h' => match zcut cuts pc' with
    | some k => κ pc' (ztrim k L') st' h'
    | none => zexec f ops cuts κ n pc' L' st' h') pc L st h
