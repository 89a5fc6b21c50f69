/-! A SMALL MACHINE over an abstract heap: cells by number. References from 1000 on are what nobody writes: static arrays, the script, String constants. -/
abbrev zE : Type := (Nat × vp_A) ⊕ (Nat × List Value)
abbrev zH : Type := List zE
abbrev zX : Type := Nat × (Nat → Int32)
abbrev zR4 : Type := Option ((Nat × List Value × List Value × zH) ⊕ ((zM × List Value × List Value × Nat) ⊕ Option Value))
def zgo (pc : Nat) (ls st : List Value) (h : zH) : zR4 := some (.inl (pc, ls, st, h))
def zin (i : Int32) (n : Nat) : Bool := decide (¬ (i < 0 ∨ n ≤ i.toNatClampNeg))
theorem zin_iff {i : Int32} {n : Nat} : zin i n = true ↔ vp_in i n := by simp [zin, vp_in]
/-- static arrays of ints, and the script -/
def zsi (X : zX) (r : Nat) : Option (Nat × (Nat → Int32)) :=
  if r = 1000 then some (10, fun j => ([0, 0, 0, 0, 0, 1, 2, 0, 1, 0] : List Int32).getD j 0)
  else if r = 1001 then some (10, fun j => ([99, 15, 9, 9, 9, 60, 16, 9, 60, 12] : List Int32).getD j 0)
  else if r = 1002 then some (10, fun j => ([0, 1, 2, 2, 2, 3, 3, 4, 4, 4] : List Int32).getD j 0)
  else if r = 1003 then some (8, fun j => ([-1, 0, 0, 2, 1, 3, 0, 6] : List Int32).getD j 0)
  else if r = 1004 then some (32, fun j => ([1, 10, 11, 2, 20, 10, 11, 2, 1, 30, 11, 2, 1, 41, 40, 2, 20, 10, 11, 50, 1, 41, 60, 61, 70, 10, 11, 2, 81, 80, 11, 2] : List Int32).getD j 0)
  else if r = 1005 then some (X.1, X.2)
  else none
/-- the bytes of the two String constants -/
def zsb (r : Nat) : Option (Nat × (Nat → Int32)) :=
  if r = 1008 then some (6, fun j => ([103, 104, 116, 101, 100, 105] : List Int32).getD j 0)
  else if r = 1009 then some (10, fun j => ([124, 38, 60, 61, 62, 43, 45, 42, 47, 37] : List Int32).getD j 0)
  else none
/-- a field of a String constant: its bytes, its coder -/
def zsf (r k : Nat) : Option Value :=
  if r = 1006 ∧ k = 0 then some (.ref 1008)
  else if r = 1007 ∧ k = 0 then some (.ref 1009)
  else if (r = 1006 ∨ r = 1007) ∧ k = 1 then some (.int 0)
  else none
def zrf (h : zH) (ci k r : Nat) : Option Value := if ci = 100 then zsf r k else if r < 1000 then match h[r]? with
    | some (.inr (c, fs)) => if c = ci then fs[k]? else none
    | _ => none
  else none
def zpf (h : zH) (ci k r : Nat) (v : Value) : Option zH := if r < 1000 then match h[r]? with
    | some (.inr (c, fs)) => if c = ci ∧ k < fs.length then some (h.set r (.inr (c, fs.set k v))) else none
    | _ => none
  else none
/-- an int array (t 0), or one of bytes (2) or shorts (3): its length, its contents -/
def zia (X : zX) (h : zH) (t r : Nat) : Option (Nat × (Nat → Int32)) := if r < 1000 then match h[r]? with
    | some (.inl (u, n, .inl f)) => if u = t then some (n, f) else none
    | _ => none
  else if t = 0 then zsi X r else if t = 2 then zsb r else none
def zla (h : zH) (r : Nat) : Option (Nat × (Nat → Int64)) := if r < 1000 then match h[r]? with
    | some (.inl (u, n, .inr (.inl f))) => if u = 1 then some (n, f) else none
    | _ => none
  else none
def zra (h : zH) (r : Nat) : Option (Nat × Nat × (Nat → Option Nat)) := if r < 1000 then match h[r]? with
    | some (.inl (u, n, .inr (.inr (.inr (.inr f))))) => if u = 4 ∨ u = 5 then some (u, n, f) else none
    | _ => none
  else none
def zlen (X : zX) (h : zH) (r : Nat) : Option Nat := if r < 1000 then match h[r]? with
    | some (.inl (u, n, _)) => if u < 6 then some n else none
    | _ => none
  else match zsi X r with
    | some (n, _) => some n
    | none => match zsb r with
      | some (n, _) => some n
      | none => none
def zpi (h : zH) (t r : Nat) (i : Nat) (v : Int32) : Option zH := if r < 1000 then match h[r]? with
    | some (.inl (u, n, .inl f)) => if u = t then some (h.set r (.inl (u, n, .inl (upd f i v)))) else none
    | _ => none
  else none
def zpl (h : zH) (r : Nat) (i : Nat) (v : Int64) : Option zH := if r < 1000 then match h[r]? with
    | some (.inl (u, n, .inr (.inl f))) => if u = 1 then some (h.set r (.inl (u, n, .inr (.inl (vp_updL f i v))))) else none
    | _ => none
  else none
def zpr (h : zH) (r : Nat) (i : Nat) (v : Nat) : Option zH := if r < 1000 then match h[r]? with
    | some (.inl (u, n, .inr (.inr (.inr (.inr f))))) => if u = 4 ∨ u = 5 then some (h.set r (.inl (u, n, .inr (.inr (.inr (.inr (va_up f i (some v)))))))) else none
    | _ => none
  else none
def znl (v : Value) : Value := match v with
  | .long _ => .null
  | .double _ => .null
  | v => v
/-- a store of one word into local i: a long ahead of it is gone -/
def zst1 (ls : List Value) (i : Nat) (v : Value) : List Value := match ls, i with
  | [], _ => []
  | _ :: r, 0 => v :: r
  | u :: r, i + 1 => (if i = 0 then znl u else u) :: zst1 r i v
def zst0 (ls : List Value) : List Value := match ls with
  | [] => []
  | _ :: r => .null :: r
def zst2 (ls : List Value) (i : Nat) (v : Value) : List Value := match ls, i with
  | [], _ => []
  | _ :: r, 0 => v :: zst0 r
  | u :: r, i + 1 => (if i = 0 then znl u else u) :: zst2 r i v
def zcat (st : List Value) : Nat := (st.map fun v => v.category).sum
def zlocs (vs : List Value) : List Value := match vs with
  | [] => []
  | .long x :: r => .long x :: .null :: zlocs r
  | .double x :: r => .double x :: .null :: zlocs r
  | v :: r => v :: zlocs r
def zpad (vs : List Value) (n : Nat) : List Value := zlocs vs ++ List.replicate (n - (zlocs vs).length) .null
def zrecv (h : zH) (own r : Nat) : Bool := if r < 1000 then match h[r]? with
    | some (.inr (c, _)) => decide (c = own)
    | _ => false
  else decide (own = 21 ∧ (r = 1006 ∨ r = 1007))
/-- the fields of a new object -/
def zdef (ty : FieldType) : Value := defaultValue ty
def zborn (c : Nat) : List Value := (List.range (znum c)).map (fun k => defaultValue (ztyX c k))
def zfin : Nat → Nat → Bool := fun c k => match zcl[c]? with
  | some q => (q.2.1 k).2.2.2
  | none => true
def zarr (t n : Nat) : vp_A := match t with
  | 1 => (n, .inr (.inl (fun _ => 0)))
  | 4 => (n, .inr (.inr (.inr (.inr (fun _ => none)))))
  | 5 => (n, .inr (.inr (.inr (.inr (fun _ => none)))))
  | _ => (n, .inl (fun _ => 0))
def zat : ArrayType → Option Nat := fun a => match a with
  | .int => some 0 | .long => some 1 | .byte => some 2 | .short => some 3 | _ => none
def zL (len n : Nat) (r : zR4) : zR4 := if len = n then r else none
def zbr (pc : Nat) (off : Int) (b : Bool) (ls st : List Value) (h : zH) : zR4 := if 0 ≤ (pc : Int) + off then zgo (bif b then ((pc : Int) + off).toNat else pc + 3) ls st h else none
def zcond1 (c : Jvm.ClassFile.Cond) (x : Int32) : Bool := match c with
  | .eq => decide (x = 0) | .ne => decide (¬ x = 0) | .lt => decide (x < 0) | .ge => decide (0 ≤ x) | .gt => decide (0 < x) | .le => decide (x ≤ 0)
def zcond2 (c : Jvm.ClassFile.Cond) (x y : Int32) : Bool := match c with
  | .eq => decide (x = y) | .ne => decide (¬ x = y) | .lt => decide (x < y) | .ge => decide (y ≤ x) | .gt => decide (y < x) | .le => decide (x ≤ y)
/-- operands -/
def z1i (st : List Value) (k : Int32 → List Value → zR4) : zR4 := match st with
  | .int x :: r => k x r
  | _ => none
def z1l (st : List Value) (k : Int64 → List Value → zR4) : zR4 := match st with
  | .long x :: r => k x r
  | _ => none
def z1r (st : List Value) (k : Nat → List Value → zR4) : zR4 := match st with
  | .ref x :: r => k x r
  | _ => none
/-- under y on the top there is x: k x y -/
def z2i (st : List Value) (k : Int32 → Int32 → List Value → zR4) : zR4 := z1i st (fun y r => z1i r (fun x r => k x y r))
def z2l (st : List Value) (k : Int64 → Int64 → List Value → zR4) : zR4 := z1l st (fun y r => z1l r (fun x r => k x y r))
def zldi (ls : List Value) (i : Nat) (k : Value → zR4) : zR4 := match ls[i]? with
  | some (.int x) => k (.int x)
  | _ => none
def zldl (ls : List Value) (i : Nat) (k : Value → zR4) : zR4 := match ls[i]? with
  | some (.long x) => k (.long x)
  | _ => none
def zldr (ls : List Value) (i : Nat) (k : Value → zR4) : zR4 := match ls[i]? with
  | some (.ref x) => k (.ref x)
  | _ => none
def zif (b : Bool) (r : zR4) : zR4 := bif b then r else none
def zof {α : Type} (o : Option α) (k : α → zR4) : zR4 := match o with
  | some x => k x
  | none => none
def ztop (st : List Value) (k : Value → List Value → zR4) : zR4 := match st with
  | v :: r => bif decide (v.category = 1) then k v r else none
  | [] => none
/-- what may stand in a field of a type -/
def zfits (ty : FieldType) (v : Value) : Bool := decide (narrow ty v = v) && fits ty v
def znarT (t : Nat) (x : Int32) : Int32 := if t = 2 then x.toInt8.toInt32 else if t = 3 then x.toInt16.toInt32 else x
def zald (X : zX) (t len pc : Nat) (ls st : List Value) (h : zH) : zR4 := zL len 1 (z1i st (fun i r => z1r r (fun a r => zof (zia X h t a) (fun q => zif (zin i q.1) (zgo (pc + 1) ls (.int (q.2 i.toNatClampNeg) :: r) h)))))
def zast (t len pc : Nat) (ls st : List Value) (h : zH) : zR4 := zL len 1 (z1i st (fun x r => z1i r (fun i r => z1r r (fun a r => zof (if a < 1000 then zia (0, fun _ => 0) h t a else none) (fun q => zif (zin i q.1) (zof (zpi h t a i.toNatClampNeg (znarT t x)) (fun h' => zgo (pc + 1) ls r h')))))))
/-- the arguments of a call: n of them, the last on top, then (with a receiver) it -/
def ztake (st : List Value) (n : Nat) : Option (List Value × List Value) := if n ≤ st.length then some ((st.take n).reverse, st.drop n) else none
def zcallV (own idx len pc : Nat) (st : List Value) (h : zH) : zR4 := zL len 3 (zof (zfind (zcallT own) own idx) (fun q => zif (decide (q.1 = 0)) (zof (ztake st q.2.1) (fun a => z1r a.2 (fun b r => zif (zrecv h q.2.2.1 b && decide (zcat r ≤ 8) && decide ((zlocs (.ref b :: a.1)).length ≤ q.2.2.2.2.2.1)) (some (.inr (.inl (q.2.2, .ref b :: a.1, r, pc + 3)))))))))
def zcallS (own idx len pc : Nat) (st : List Value) : zR4 := zL len 3 (zof (zfind (zcallT own) own idx) (fun q => zif (decide (q.1 = 1)) (zof (ztake st q.2.1) (fun a => zif (decide (zcat a.2 ≤ 8) && decide ((zlocs a.1).length ≤ q.2.2.2.2.2.1)) (some (.inr (.inl (q.2.2, a.1, a.2, pc + 3))))))))
def zcallI (own idx len pc : Nat) (st : List Value) : zR4 := zL len 3 (zof (zfind (zcallT own) own idx) (fun q => zif (decide (q.1 = 2 ∨ q.1 = 3)) (zof (ztake st q.2.1) (fun a => z1r a.2 (fun b r => zif (decide (zcat r ≤ 8) && decide ((zlocs (.ref b :: a.1)).length ≤ q.2.2.2.2.2.1)) (some (.inr (.inl (q.2.2, .ref b :: a.1, r, pc + 3)))))))))
def zcopy (X : zX) (len pc : Nat) (ls st : List Value) (h : zH) : zR4 := zL len 3 (z1i st (fun n r => z1i r (fun dp r => z1r r (fun b r => z1i r (fun sp r => z1r r (fun a r =>
  zif (decide (zcat r ≤ 8) && decide (a < 1000) && decide (b < 1000) && decide (¬ sp < 0) && decide (¬ dp < 0) && decide (¬ n < 0)) (
    match zia X h 0 a, zia X h 0 b, zla h a, zla h b with
    | some (n0, f), some (n1, g), _, _ => zif (decide (sp.toNatClampNeg + n.toNatClampNeg ≤ n0) && decide (dp.toNatClampNeg + n.toNatClampNeg ≤ n1)) (zgo (pc + 3) ls r (h.set b (.inl (0, n1, .inl (va_cpy f g sp.toNatClampNeg dp.toNatClampNeg n.toNatClampNeg)))))
    | _, _, some (n0, f), some (n1, g) => zif (decide (sp.toNatClampNeg + n.toNatClampNeg ≤ n0) && decide (dp.toNatClampNeg + n.toNatClampNeg ≤ n1)) (zgo (pc + 3) ls r (h.set b (.inl (1, n1, .inr (.inl (va_cpy f g sp.toNatClampNeg dp.toNatClampNeg n.toNatClampNeg))))))
    | _, _, _, _ => none)))))))
def zswT (dflt lo hi : Int) (offs : Array Int) (x : Int32) : Option Int := if x.toInt < lo ∨ hi < x.toInt then some dflt else offs[(x.toInt - lo).toNat]?
def zjmp (pc : Nat) (off : Int) (ls st : List Value) (h : zH) : zR4 := if 0 ≤ (pc : Int) + off then zgo ((pc : Int) + off).toNat ls st h else none
def zput (m : zM) (idx len pc : Nat) (ls st : List Value) (h : zH) : zR4 := zL len 3 (match st with
  | v :: .ref a :: r => zof (zfind zfldT m.1 idx) (fun q => zif (decide (q.1 < 13) && decide (q.2 < znum q.1) && zfits (ztyX q.1 q.2) v && (!(zfin q.1 q.2) || (decide (m.2.1.name = "<init>") && decide (q.1 = m.1)))) (zof (zpf h q.1 q.2 a v) (fun h' => zgo (pc + 3) ls r h')))
  | _ => none)
def zinvS (X : zX) (m : zM) (idx len pc : Nat) (ls st : List Value) (h : zH) : zR4 := match zfind zspT m.1 idx with
  | some k => if k = 1 then zcopy X len pc ls st h
    else if k = 2 then zL len 3 (z2i st (fun x y r => zif (decide (zcat r ≤ 8)) (zgo (pc + 3) ls (.int (if x < y then y else x) :: r) h)))
    else if k = 3 then zL len 3 (z2i st (fun x y r => zif (decide (zcat r ≤ 8)) (zgo (pc + 3) ls (.int (if y < x then y else x) :: r) h)))
    else if k = 4 then zL len 3 (z1i st (fun x r => zif (decide (zcat r ≤ 8)) (zgo (pc + 3) ls (.int (if 0 ≤ x then x else 0 - x) :: r) h)))
    else none
  | none => zcallS m.1 idx len pc st
def zinvI (m : zM) (idx len pc : Nat) (ls st : List Value) (h : zH) : zR4 := match zfind zspT m.1 idx with
  | some k => if k = 0 then zL len 3 (z1r st (fun _ r => zif (decide (zcat r ≤ 8)) (zgo (pc + 3) ls r h))) else none
  | none => zcallI m.1 idx len pc st
def zins (X : zX) (m : zM) (i : Instr) (len pc : Nat) (ls st : List Value) (h : zH) : zR4 := match i with
  | .iconst n => zL len 1 (zgo (pc + 1) ls (.int (Int32.ofInt n) :: st) h)
  | .bipush n => zL len 2 (zgo (pc + 2) ls (.int (Int8.ofInt n).toInt32 :: st) h)
  | .sipush n => zL len 3 (zgo (pc + 3) ls (.int (Int16.ofInt n).toInt32 :: st) h)
  | .lconst n => zL len 1 (zgo (pc + 1) ls (.long (Int64.ofNat (n : Nat)) :: st) h)
  | .iload_n k => zL len 1 (zldi ls k (fun v => zgo (pc + 1) ls (v :: st) h))
  | .iload k => zL len 2 (zldi ls k (fun v => zgo (pc + 2) ls (v :: st) h))
  | .lload_n k => zL len 1 (zldl ls k (fun v => zgo (pc + 1) ls (v :: st) h))
  | .lload k => zL len 2 (zldl ls k (fun v => zgo (pc + 2) ls (v :: st) h))
  | .aload_n k => zL len 1 (zldr ls k (fun v => zgo (pc + 1) ls (v :: st) h))
  | .aload k => zL len 2 (zldr ls k (fun v => zgo (pc + 2) ls (v :: st) h))
  | .istore_n k => zL len 1 (z1i st (fun x r => zif (decide ((k : Nat) < ls.length)) (zgo (pc + 1) (zst1 ls k (.int x)) r h)))
  | .istore k => zL len 2 (z1i st (fun x r => zif (decide (k < ls.length)) (zgo (pc + 2) (zst1 ls k (.int x)) r h)))
  | .astore_n k => zL len 1 (z1r st (fun x r => zif (decide ((k : Nat) < ls.length)) (zgo (pc + 1) (zst1 ls k (.ref x)) r h)))
  | .astore k => zL len 2 (z1r st (fun x r => zif (decide (k < ls.length)) (zgo (pc + 2) (zst1 ls k (.ref x)) r h)))
  | .lstore k => zL len 2 (z1l st (fun x r => zif (decide (k + 1 < ls.length)) (zgo (pc + 2) (zst2 ls k (.long x)) r h)))
  | .iinc k n => zL len 3 (match ls[k]? with
    | some (.int x) => zgo (pc + 3) (zst1 ls k (.int (x + Int32.ofInt n))) st h
    | _ => none)
  | .iadd => zL len 1 (z2i st (fun x y r => zgo (pc + 1) ls (.int (x + y) :: r) h))
  | .isub => zL len 1 (z2i st (fun x y r => zgo (pc + 1) ls (.int (x - y) :: r) h))
  | .imul => zL len 1 (z2i st (fun x y r => zgo (pc + 1) ls (.int (x * y) :: r) h))
  | .iand => zL len 1 (z2i st (fun x y r => zgo (pc + 1) ls (.int (x &&& y) :: r) h))
  | .ior => zL len 1 (z2i st (fun x y r => zgo (pc + 1) ls (.int (x ||| y) :: r) h))
  | .ixor => zL len 1 (z2i st (fun x y r => zgo (pc + 1) ls (.int (x ^^^ y) :: r) h))
  | .idiv => zL len 1 (z2i st (fun x y r => zif (decide (¬ y = 0)) (zgo (pc + 1) ls (.int (x / y) :: r) h)))
  | .irem => zL len 1 (z2i st (fun x y r => zif (decide (¬ y = 0)) (zgo (pc + 1) ls (.int (x - x / y * y) :: r) h)))
  | .ishl => zL len 1 (z2i st (fun x y r => zgo (pc + 1) ls (.int (x <<< (y &&& 31)) :: r) h))
  | .ishr => zL len 1 (z2i st (fun x y r => zgo (pc + 1) ls (.int (x >>> (y &&& 31)) :: r) h))
  | .iushr => zL len 1 (z2i st (fun x y r => zgo (pc + 1) ls (.int (x.toUInt32 >>> (y.toUInt32 &&& Int32.toUInt32 31)).toInt32 :: r) h))
  | .ineg => zL len 1 (z1i st (fun x r => zgo (pc + 1) ls (.int (-x) :: r) h))
  | .ladd => zL len 1 (z2l st (fun x y r => zgo (pc + 1) ls (.long (x + y) :: r) h))
  | .land => zL len 1 (z2l st (fun x y r => zgo (pc + 1) ls (.long (x &&& y) :: r) h))
  | .lor => zL len 1 (z2l st (fun x y r => zgo (pc + 1) ls (.long (x ||| y) :: r) h))
  | .lshl => zL len 1 (z1i st (fun y r => z1l r (fun x r => zgo (pc + 1) ls (.long (x <<< (y.toInt64 &&& 63)) :: r) h)))
  | .lcmp => zL len 1 (z2l st (fun x y r => zgo (pc + 1) ls (.int (lg_cmp x y) :: r) h))
  | .i2l => zL len 1 (z1i st (fun x r => zgo (pc + 1) ls (.long x.toInt64 :: r) h))
  | .l2i => zL len 1 (z1l st (fun x r => zgo (pc + 1) ls (.int x.toInt32 :: r) h))
  | .i2b => zL len 1 (z1i st (fun x r => zgo (pc + 1) ls (.int x.toInt8.toInt32 :: r) h))
  | .i2s => zL len 1 (z1i st (fun x r => zgo (pc + 1) ls (.int x.toInt16.toInt32 :: r) h))
  | .i2c => zL len 1 (z1i st (fun x r => zgo (pc + 1) ls (.int (x.toUInt32 % 65536).toInt32 :: r) h))
  | .dup => zL len 1 (ztop st (fun v r => zgo (pc + 1) ls (v :: v :: r) h))
  | .pop => zL len 1 (ztop st (fun _ r => zgo (pc + 1) ls r h))
  | .dup_x1 => zL len 1 (ztop st (fun v r => ztop r (fun w r => zgo (pc + 1) ls (v :: w :: v :: r) h)))
  | .dup2 => zL len 1 (ztop st (fun v r => ztop r (fun w r => zgo (pc + 1) ls (v :: w :: v :: w :: r) h)))
  | .ifCond c off => zL len 3 (z1i st (fun x r => zbr pc off (zcond1 c x) ls r h))
  | .if_icmp c off => zL len 3 (z2i st (fun x y r => zbr pc off (zcond2 c x y) ls r h))
  | .goto off => zL len 3 (zjmp pc off ls st h)
  | .tableswitch dflt lo hi offs => z1i st (fun x r => zof (zswT dflt lo hi offs x) (fun off => zjmp pc off ls r h))
  | .lookupswitch dflt ps => zif ((ps.toList.zip (ps.toList.drop 1)).all (fun (a, next) => a.1 < next.1)) (z1i st (fun x r => zjmp pc (Op.lookupswitch.offset ps.toList dflt x.toInt) ls r h))
  | .getfield idx => zL len 3 (z1r st (fun a r => zof (zfind zfldT m.1 idx) (fun q => zof (zrf h q.1 q.2 a) (fun v => zgo (pc + 3) ls (v :: r) h))))
  | .putfield idx => zput m idx len pc ls st h
  | .getstatic idx => zL len 3 (zof (zfind zgsT m.1 idx) (fun q => zgo (pc + 3) ls ((if q = 9 then .int 1 else if q = 8 then .ref 1001 else .ref (1000 + q)) :: st) h))
  | .ldc idx => zL len 2 (zof (zfind zcstT m.1 idx) (fun q => match q with
    | .int v => zgo (pc + 2) ls (.int v :: st) h
    | .ref a => zgo (pc + 2) ls (.ref a :: st) h
    | _ => none))
  | .ldc_w idx => zL len 3 (zof (zfind zcstT m.1 idx) (fun q => match q with
    | .int v => zgo (pc + 3) ls (.int v :: st) h
    | _ => none))
  | .ldc2_w idx => zL len 3 (zof (zfind zcstT m.1 idx) (fun q => match q with
    | .long v => zgo (pc + 3) ls (.long v :: st) h
    | _ => none))
  | .iaload => zald X 0 len pc ls st h
  | .baload => zald X 2 len pc ls st h
  | .saload => zald X 3 len pc ls st h
  | .iastore => zast 0 len pc ls st h
  | .bastore => zast 2 len pc ls st h
  | .sastore => zast 3 len pc ls st h
  | .laload => zL len 1 (z1i st (fun i r => z1r r (fun a r => zof (zla h a) (fun q => zif (zin i q.1) (zgo (pc + 1) ls (.long (q.2 i.toNatClampNeg) :: r) h)))))
  | .lastore => zL len 1 (z1l st (fun x r => z1i r (fun i r => z1r r (fun a r => zof (zla h a) (fun q => zif (zin i q.1) (zof (zpl h a i.toNatClampNeg x) (fun h' => zgo (pc + 1) ls r h')))))))
  | .aaload => zL len 1 (z1i st (fun i r => z1r r (fun a r => zof (zra h a) (fun q => zif (zin i q.2.1) (zof (q.2.2 i.toNatClampNeg) (fun b => zgo (pc + 1) ls (.ref b :: r) h))))))
  | .aastore => zL len 1 (z1r st (fun x r => z1i r (fun i r => z1r r (fun a r => zof (zra h a) (fun q => zif (zin i q.2.1 && zrecv h (if q.1 = 4 then 8 else 2) x && decide (x < 1000)) (zof (zpr h a i.toNatClampNeg x) (fun h' => zgo (pc + 1) ls r h')))))))
  | .arraylength => zL len 1 (z1r st (fun a r => zof (zlen X h a) (fun n => zgo (pc + 1) ls (.int (Int32.ofNat n) :: r) h)))
  | .newarray ty => zL len 2 (z1i st (fun n r => zof (zat ty) (fun t => zif (decide (h.length < 1000) && decide (¬ n < 0) && decide (n.toNatClampNeg ≤ 1000)) (zgo (pc + 2) ls (.ref h.length :: r) (h ++ [.inl (t, zarr t n.toNatClampNeg)])))))
  | .anewarray idx => zL len 3 (z1i st (fun n r => zof (zfind zanaT m.1 idx) (fun q => zif (decide (h.length < 1000) && decide (¬ n < 0) && decide (n.toNatClampNeg ≤ 1000)) (zgo (pc + 3) ls (.ref h.length :: r) (h ++ [.inl (q, zarr q n.toNatClampNeg)])))))
  | .new idx => zL len 3 (zof (zfind znewT m.1 idx) (fun q => zif (decide (h.length < 1000)) (zgo (pc + 3) ls (.ref h.length :: st) (h ++ [.inr (q, zborn q)]))))
  | .invokevirtual idx => zcallV m.1 idx len pc st h
  | .invokestatic idx => zinvS X m idx len pc ls st h
  | .invokespecial idx => zinvI m idx len pc ls st h
  | .ireturn => zL len 1 (match st, m.2.2.2.2 with
    | [.int v], some ty => zif (decide (narrow ty (.int v) = .int v)) (some (.inr (.inr (some (.int v)))))
    | _, _ => none)
  | .lreturn => zL len 1 (match st, m.2.2.2.2 with
    | [.long v], some .long => some (.inr (.inr (some (.long v))))
    | _, _ => none)
  | .return_ => zL len 1 (match st, m.2.2.2.2 with
    | [], none => some (.inr (.inr none))
    | _, _ => none)
  | _ => none
def zstep (X : zX) (m : zM) (pc : Nat) (ls st : List Value) (h : zH) : zR4 := match decode m.2.2.1 pc with
  | .ok q => zins X m q.1 q.2 pc ls st h
  | .error _ => none
/-- so many steps at most; so many calls open at most -/
def zev (X : zX) : Nat → Nat → zM → Nat → List Value → List Value → zH → Option (Option Value × zH)
  | 0, _, _, _, _, _, _ => none
  | n + 1, d, m, pc, ls, st, h => match zstep X m pc ls st h with
    | some (.inl (pc', ls', st', h')) => zev X n d m pc' ls' st' h'
    | some (.inr (.inl (m', as, rest, pc'))) => match d with
      | 0 => none
      | d' + 1 => match zev X n d' m' 0 (zpad as m'.2.2.2.1) [] h with
        | some (v, h') => zev X n (d' + 1) m pc' ls (v.toList ++ rest) h'
        | none => none
    | some (.inr (.inr v)) => some (v, h)
    | none => none
