/-! AN ABSTRACT MACHINE over the program as data: numbers are whole numbers (a number stands for its rest by 2 ^ 32), a heap cell is a row of a table by its number -/
/-- tag and number: 0 a number of 32 bits, 1 of 64 bits, 2 a reference (-1 null, -2 the script, -3 a thing of the machine's, -10 - i the constant text i, -100 - i its bytes, else a cell by its number), 9 nothing -/
abbrev AV : Type := Nat × Int
abbrev II : Type := Int → Int → Int
/-- how many cells were made; how many fields and elements in all; what a cell is (kind 0 .. 9 an object, 20 .. 25 an array, 99 none of ours; length); what references it holds -/
abbrev SS : Type := Nat × Nat × (Int → Int × Int) × II
abbrev sN (S : SS) : Nat := S.1
abbrev sL (S : SS) : Nat := S.2.1
abbrev sH (S : SS) : Int → Int × Int := S.2.2.1
abbrev sG (S : SS) : II := S.2.2.2
/-- a number as the machine reads it -/
def w (z : Int) : Int := (Int32.ofInt z).toInt
def wl (z : Int) : Int := (Int64.ofInt z).toInt
def up2 (I : II) (a k v : Int) : II := fun a' k' => if a' = a ∧ k' = k then v else I a' k'
abbrev NX : Type := Nat × List AV × List AV × SS × II
abbrev SR : Type := Option (NX ⊕ (AV × SS × II) ⊕ (Nat × List AV × List AV))
abbrev uU : AV := (9, 0)
def nx (pc : Nat) (al st : List AV) (S : SS) (I : II) : SR := some (.inl (pc, al, st, S, I))
def jmp (pc : Nat) (off : Int) (al st : List AV) (S : SS) (I : II) : SR := if 0 ≤ (pc : Int) + off then nx ((pc : Int) + off).toNat al st S I else none
def iAnd (x y : Int) : Int := (Int32.ofInt x &&& Int32.ofInt y).toInt
def iOr (x y : Int) : Int := (Int32.ofInt x ||| Int32.ofInt y).toInt
def iXor (x y : Int) : Int := (Int32.ofInt x ^^^ Int32.ofInt y).toInt
def iShl (x y : Int) : Int := (Int32.ofInt x <<< (Int32.ofInt y &&& 31)).toInt
def iShr (x y : Int) : Int := (Int32.ofInt x >>> (Int32.ofInt y &&& 31)).toInt
def iUshr (x y : Int) : Int := ((Int32.ofInt x).toUInt32 >>> ((Int32.ofInt y).toUInt32 &&& Int32.toUInt32 31)).toInt32.toInt
def iDiv (x y : Int) : Int := (Int32.ofInt x / Int32.ofInt y).toInt
def iRem (x y : Int) : Int := (Int32.ofInt x - Int32.ofInt x / Int32.ofInt y * Int32.ofInt y).toInt
def iB (x : Int) : Int := (Int32.ofInt x).toInt8.toInt32.toInt
def iS (x : Int) : Int := (Int32.ofInt x).toInt16.toInt32.toInt
def iC (x : Int) : Int := ((Int32.ofInt x).toUInt32 % 65536).toInt32.toInt
def lCmp (x y : Int) : Int := if wl y < wl x then 1 else if wl x = wl y then 0 else -1
/-- is it a cell of that kind? -/
abbrev isK (S : SS) (a k : Int) : Prop := 0 ≤ a ∧ a < (sN S : Int) ∧ (sH S a).1 = k
abbrev inR (S : SS) (a i : Int) : Prop := 0 ≤ w i ∧ w i < (sH S a).2
def txt (i : Int) : List Nat := stx.getD i.toNat []
abbrev isT (i : Int) : Prop := 0 ≤ i ∧ i < 12
abbrev inT (t i : Int) : Prop := isT t ∧ 0 ≤ w i ∧ w i < ((txt t).length : Int)
def cat (x : AV) : Nat := if x.1 = 1 then 2 else 1
def args0 : List AV → List AV
  | [] => []
  | x :: l => if x.1 = 1 then x :: uU :: args0 l else x :: args0 l
/-- the locals at a method's entry -/
def ent (mi : Nat) (l : List AV) : List AV := args0 l ++ List.replicate (mL mi - (args0 l).length) uU
def argsOk (mi : Nat) (l : List AV) : Bool := decide ((args0 l).length ≤ mL mi) && l.all (fun x => decide (x.1 ≠ 9))
/-- may a method of class c be called on it? -/
def rcv (S : SS) (c : Nat) (a : Int) : Bool := if c = 15 then decide (isT (-10 - a)) else decide (isK S a ((c : Int) - 2))
def ldL (n : Nat) (t : Nat) (pc : Nat) (al st : List AV) (S : SS) (I : II) : SR := match al[n]? with
  | some x => if x.1 = t then nx pc al (x :: st) S I else none
  | none => none
def isLong (al : List AV) (n : Nat) : Bool := match n with
  | 0 => false
  | k + 1 => match al[k]? with
    | some x => x.1 == 1
    | none => false
def stL (n : Nat) (t : Nat) (pc : Nat) (al st : List AV) (S : SS) (I : II) : SR := match st with
  | x :: r => if x.1 = t ∧ n < al.length ∧ isLong al n = false then nx pc (al.set n x) r S I else none
  | _ => none
def stJ (n : Nat) (pc : Nat) (al st : List AV) (S : SS) (I : II) : SR := match st with
  | x :: r => if x.1 = 1 ∧ n + 1 < al.length ∧ isLong al n = false then nx pc ((al.set n x).set (n + 1) uU) r S I else none
  | _ => none
def bin (f : Int → Int → Int) (pc : Nat) (al st : List AV) (S : SS) (I : II) : SR := match st with
  | (0, y) :: (0, x) :: r => nx (pc + 1) al ((0, f x y) :: r) S I
  | _ => none
def una (f : Int → Int) (pc : Nat) (al st : List AV) (S : SS) (I : II) : SR := match st with
  | (0, x) :: r => nx (pc + 1) al ((0, f x) :: r) S I
  | _ => none
def cmpd (c : ClassFile.Cond) (x y : Int) (t f : SR) : SR := match c with
  | .eq => if w x = w y then t else f
  | .ne => if w x = w y then f else t
  | .lt => if w x < w y then t else f
  | .ge => if w x < w y then f else t
  | .gt => if w y < w x then t else f
  | .le => if w y < w x then f else t
def gd (c : Prop) [Decidable c] (r : SR) : SR := if c then r else none
/-- what a field holds, by its tag -/
def fV (S : SS) (I : II) (ci k : Nat) (a : Int) : AV := if fT ci k = 2 then (2, sG S a k) else (0, I a k)
def getf (mi idx : Nat) (pc : Nat) (al st : List AV) (S : SS) (I : II) : SR := match st with
  | (2, a) :: r => if mC mi = 15 then (if idx = 9 then gd (isT (-10 - a)) (nx (pc + 3) al ((2, -90 + a) :: r) S I) else if idx = 15 then gd (isT (-10 - a)) (nx (pc + 3) al ((0, 0) :: r) S I) else none)
    else match lkf (mC mi) idx with
    | some q => gd (isK S a (q.1 : Int)) (nx (pc + 3) al (fV S I q.1 q.2.1 a :: r) S I)
    | none => none
  | _ => none
def gets (mi idx : Nat) (pc : Nat) (al st : List AV) (S : SS) (I : II) : SR :=
  if mC mi = 15 then (if idx = 38 then nx (pc + 3) al ((0, 1) :: st) S I else if idx = 1053 then nx (pc + 3) al ((2, -3) :: st) S I else none) else none
def putf (mi idx : Nat) (pc : Nat) (al st : List AV) (S : SS) (I : II) : SR := match st with
  | (t, v) :: (2, a) :: r => match lkf (mC mi) idx with
    | some q => gd (isK S a (q.1 : Int)) (if fF q.1 q.2.1 = true ∧ ¬ (mC mi = q.1 + 2 ∧ mK mi = 2 ∧ q.2.2.1 = 0) then none else
        if fT q.1 q.2.1 = 0 ∧ t = 0 then nx (pc + 3) al r S (up2 I a q.2.1 v)
        else if fT q.1 q.2.1 = 3 ∧ t = 0 ∧ (v = 0 ∨ v = 1) then nx (pc + 3) al r S (up2 I a q.2.1 v)
        else if fT q.1 q.2.1 = 2 ∧ t = 2 ∧ 0 ≤ v then nx (pc + 3) al r (S.1, S.2.1, S.2.2.1, up2 (sG S) a q.2.1 v) I else none)
    | none => none
  | _ => none
/-- a new cell -/
def newS (S : SS) (k : Int) (len : Nat) : SS := (S.1 + 1, S.2.1 + len, (fun a => if a = (S.1 : Int) then (k, (len : Int)) else sH S a), (fun a i => if a = (S.1 : Int) then -1 else sG S a i))
def newI (S : SS) (I : II) : II := fun a i => if a = (S.1 : Int) then 0 else I a i
def newA (k : Int) (d : Nat) (pc : Nat) (al st : List AV) (S : SS) (I : II) : SR := match st with
  | (0, z) :: r => gd (0 ≤ w z ∧ w z ≤ 100000) (nx (pc + d) al ((2, (S.1 : Int)) :: r) (newS S k (w z).toNat) (newI S I))
  | _ => none
def newT (t : ArrayType) (pc : Nat) (al st : List AV) (S : SS) (I : II) : SR := match t with
  | .int => newA 20 2 pc al st S I
  | .long => newA 21 2 pc al st S I
  | .char => newA 22 2 pc al st S I
  | .boolean => newA 23 2 pc al st S I
  | _ => none
def newO (mi idx : Nat) (pc : Nat) (al st : List AV) (S : SS) (I : II) : SR := match lkc (mC mi) idx with
  | some q => nx (pc + 3) al ((2, (S.1 : Int)) :: st) (newS S (q.1 : Int) (fN q.1)) (newI S I)
  | none => none
def newR (mi idx : Nat) (pc : Nat) (al st : List AV) (S : SS) (I : II) : SR := match lkc (mC mi) idx with
  | some q => if q.1 = 1 then newA 24 3 pc al st S I else if q.1 = 3 then newA 25 3 pc al st S I else none
  | none => none
/-- loads out of arrays of numbers -/
def aldI (k : Int) (pc : Nat) (al st : List AV) (S : SS) (I : II) : SR := match st with
  | (0, i) :: (2, a) :: r => gd ((0 ≤ a ∧ a < (sN S : Int) ∨ a = -2) ∧ (sH S a).1 = k ∧ inR S a i) (nx (pc + 1) al ((0, I a (w i)) :: r) S I)
  | _ => none
def aldB (pc : Nat) (al st : List AV) (S : SS) (I : II) : SR := match st with
  | (0, i) :: (2, a) :: r => if a ≤ -100 then gd (inT (-100 - a) i) (nx (pc + 1) al ((0, ((txt (-100 - a)).getD (w i).toNat 0 : Int)) :: r) S I)
      else gd (isK S a 23 ∧ inR S a i) (nx (pc + 1) al ((0, I a (w i)) :: r) S I)
  | _ => none
def aldJ (pc : Nat) (al st : List AV) (S : SS) (I : II) : SR := match st with
  | (0, i) :: (2, a) :: r => gd (isK S a 21 ∧ inR S a i) (nx (pc + 1) al ((1, I a (w i)) :: r) S I)
  | _ => none
def aldR (pc : Nat) (al st : List AV) (S : SS) (I : II) : SR := match st with
  | (0, i) :: (2, a) :: r => gd ((isK S a 24 ∨ isK S a 25) ∧ inR S a i) (nx (pc + 1) al ((2, sG S a (w i)) :: r) S I)
  | _ => none
/-- stores into arrays -/
def astI (k : Int) (pc : Nat) (al st : List AV) (S : SS) (I : II) : SR := match st with
  | (0, v) :: (0, i) :: (2, a) :: r => gd (isK S a k ∧ inR S a i ∧ (k = 23 → v = 0 ∨ v = 1) ∧ (k = 22 → 0 ≤ v ∧ v < 65536)) (nx (pc + 1) al r S (up2 I a (w i) v))
  | _ => none
def astJ (pc : Nat) (al st : List AV) (S : SS) (I : II) : SR := match st with
  | (1, v) :: (0, i) :: (2, a) :: r => gd (isK S a 21 ∧ inR S a i) (nx (pc + 1) al r S (up2 I a (w i) v))
  | _ => none
def astR (pc : Nat) (al st : List AV) (S : SS) (I : II) : SR := match st with
  | (2, v) :: (0, i) :: (2, a) :: r => gd ((isK S a 24 ∧ isK S v 1 ∨ isK S a 25 ∧ isK S v 3) ∧ inR S a i) (nx (pc + 1) al r (S.1, S.2.1, S.2.2.1, up2 (sG S) a (w i) v) I)
  | _ => none
def alen (pc : Nat) (al st : List AV) (S : SS) (I : II) : SR := match st with
  | (2, a) :: r => if a ≤ -100 then gd (isT (-100 - a)) (nx (pc + 1) al ((0, ((txt (-100 - a)).length : Int)) :: r) S I)
      else gd ((0 ≤ a ∧ a < (sN S : Int) ∨ a = -2) ∧ 20 ≤ (sH S a).1 ∧ (sH S a).1 ≤ 25) (nx (pc + 1) al ((0, (sH S a).2) :: r) S I)
  | _ => none
def acpy (pc : Nat) (al st : List AV) (S : SS) (I : II) : SR := match st with
  | (0, n) :: (0, dp) :: (2, b) :: (0, sp) :: (2, a) :: r => gd (isK S a 20 ∧ isK S b 20 ∧ 0 ≤ w sp ∧ 0 ≤ w dp ∧ 0 ≤ w n ∧ w sp + w n ≤ (sH S a).2 ∧ w dp + w n ≤ (sH S b).2 ∧ (r.map cat).sum ≤ 8)
      (nx (pc + 3) al r S (fun x k => if x = b ∧ w dp ≤ k ∧ k < w dp + w n then I a (w sp + (k - w dp)) else I x k))
  | _ => none
/-- calls: what kind of link it is -/
def call (vk : Nat) (mi idx : Nat) (pc : Nat) (al st : List AV) (S : SS) (I : II) : SR := match lkm (mC mi) idx with
  | some q => if q.1 = 10 then (match st with | (2, a) :: r => if vk = 2 ∧ 0 ≤ a ∧ (r.map cat).sum ≤ 8 then nx (pc + 3) al r S I else none | _ => none)
      else if q.1 = 11 then (if vk = 0 then acpy pc al st S I else none)
      else if q.1 = 12 then (match st with | (0, y) :: (0, x) :: r => if vk = 0 ∧ (r.map cat).sum ≤ 8 then nx (pc + 3) al ((0, if w x < w y then w y else w x) :: r) S I else none | _ => none)
      else if q.1 = 13 then (match st with | (0, y) :: (0, x) :: r => if vk = 0 ∧ (r.map cat).sum ≤ 8 then nx (pc + 3) al ((0, if w y < w x then w y else w x) :: r) S I else none | _ => none)
      else if q.1 = vk ∨ q.1 = vk + 3 then
        (if vk = 0 then (if mP q.2.1 ≤ st.length ∧ ((st.drop (mP q.2.1)).map cat).sum ≤ 8 ∧ argsOk q.2.1 (st.take (mP q.2.1)).reverse = true then some (.inr (.inr (q.2.1, (st.take (mP q.2.1)).reverse, st.drop (mP q.2.1)))) else none)
        else match st.drop (mP q.2.1) with
          | (2, a) :: r => if mP q.2.1 < st.length ∧ (r.map cat).sum ≤ 8 ∧ (vk = 1 → rcv S (mC q.2.1) a = true) ∧ (vk = 2 → 0 ≤ a) ∧ argsOk q.2.1 ((2, a) :: (st.take (mP q.2.1)).reverse) = true then some (.inr (.inr (q.2.1, (2, a) :: (st.take (mP q.2.1)).reverse, r))) else none
          | _ => none)
      else none
  | none => none
def swt (d lo hi : Int) (offs : Array Int) (pc : Nat) (al st : List AV) (S : SS) (I : II) : SR := match st with
  | (0, x) :: r => if w x < lo ∨ hi < w x then jmp pc d al r S I else match offs[(w x - lo).toNat]? with
    | some o => jmp pc o al r S I
    | none => none
  | _ => none
def swl (d : Int) (ps : Array (Int × Int)) (pc : Nat) (al st : List AV) (S : SS) (I : II) : SR := match st with
  | (0, x) :: r => if (ps.toList.zip (ps.toList.drop 1)).all (fun (a, next) => a.1 < next.1) = true then jmp pc (Op.lookupswitch.offset ps.toList d (w x)) al r S I else none
  | _ => none
def retI (mi : Nat) (st : List AV) (S : SS) (I : II) : SR := match st with
  | [(0, v)] => if mR mi = some .int then some (.inr (.inl ((0, v), S, I))) else if mR mi = some .boolean ∧ (v = 0 ∨ v = 1) then some (.inr (.inl ((0, v), S, I))) else if (mR mi = some .byte ∨ mR mi = some .char) ∧ 0 ≤ v ∧ v < 128 then some (.inr (.inl ((0, v), S, I))) else none
  | _ => none
def st2 (mi : Nat) (i : Instr) (ln : Nat) (pc : Nat) (al st : List AV) (S : SS) (I : II) : SR := match i with
  | .aaload => gd (ln = 1) (aldR pc al st S I)
  | .aastore => gd (ln = 1) (astR pc al st S I)
  | .aconst_null => gd (ln = 1) (nx (pc + 1) al ((2, -1) :: st) S I)
  | .aload n => gd (ln = 2) (ldL n 2 (pc + 2) al st S I)
  | .aload_n n => gd (ln = 1) (ldL n 2 (pc + 1) al st S I)
  | .anewarray idx => gd (ln = 3) (newR mi idx pc al st S I)
  | .areturn => gd (ln = 1) (match st with | [(2, v)] => (match mR mi with | some (.object _) => some (.inr (.inl ((2, v), S, I))) | some (.array .int) => some (.inr (.inl ((2, v), S, I))) | _ => none) | _ => none)
  | .arraylength => gd (ln = 1) (alen pc al st S I)
  | .astore n => gd (ln = 2) (stL n 2 (pc + 2) al st S I)
  | .astore_n n => gd (ln = 1) (stL n 2 (pc + 1) al st S I)
  | .baload => gd (ln = 1) (aldB pc al st S I)
  | .bastore => gd (ln = 1) (astI 23 pc al st S I)
  | .bipush z => gd (ln = 2 ∧ -128 ≤ z ∧ z < 128) (nx (pc + 2) al ((0, z) :: st) S I)
  | .caload => gd (ln = 1) (aldI 22 pc al st S I)
  | .castore => gd (ln = 1) (astI 22 pc al st S I)
  | .dup => gd (ln = 1) (match st with | x :: r => if x.1 = 1 then none else nx (pc + 1) al (x :: x :: r) S I | _ => none)
  | .dup2 => gd (ln = 1) (match st with | x :: y :: r => if x.1 = 1 ∨ y.1 = 1 then none else nx (pc + 1) al (x :: y :: x :: y :: r) S I | _ => none)
  | .getfield idx => gd (ln = 3) (getf mi idx pc al st S I)
  | .getstatic idx => gd (ln = 3) (gets mi idx pc al st S I)
  | .goto off => gd (ln = 3) (jmp pc off al st S I)
  | .i2b => gd (ln = 1) (una iB (pc) al st S I)
  | .i2c => gd (ln = 1) (una iC (pc) al st S I)
  | .i2l => gd (ln = 1) (match st with | (0, x) :: r => nx (pc + 1) al ((1, w x) :: r) S I | _ => none)
  | .i2s => gd (ln = 1) (una iS (pc) al st S I)
  | .iadd => gd (ln = 1) (bin (fun x y => x + y) pc al st S I)
  | .iaload => gd (ln = 1) (aldI 20 pc al st S I)
  | .iand => gd (ln = 1) (bin iAnd pc al st S I)
  | .iastore => gd (ln = 1) (astI 20 pc al st S I)
  | .iconst z => gd (ln = 1) (nx (pc + 1) al ((0, z) :: st) S I)
  | .idiv => gd (ln = 1) (match st with | (0, y) :: (0, x) :: r => gd (w y ≠ 0) (nx (pc + 1) al ((0, iDiv x y) :: r) S I) | _ => none)
  | .if_icmp c off => gd (ln = 3 ∧ 0 ≤ (pc : Int) + off) (match st with | (0, y) :: (0, x) :: r => cmpd c x y (jmp pc off al r S I) (nx (pc + 3) al r S I) | _ => none)
  | .ifCond c off => gd (ln = 3 ∧ 0 ≤ (pc : Int) + off) (match st with | (0, x) :: r => cmpd c x 0 (jmp pc off al r S I) (nx (pc + 3) al r S I) | _ => none)
  | .ifnonnull off => gd (ln = 3) (match st with | (2, x) :: r => if x = -1 then nx (pc + 3) al r S I else gd (x ≠ -3) (jmp pc off al r S I) | _ => none)
  | .ifnull off => gd (ln = 3) (match st with | (2, x) :: r => if x = -1 then jmp pc off al r S I else gd (x ≠ -3) (nx (pc + 3) al r S I) | _ => none)
  | .iinc n z => gd (ln = 3) (match al[n]? with | some (0, x) => nx (pc + 3) (al.set n (0, x + z)) st S I | _ => none)
  | .iload n => gd (ln = 2) (ldL n 0 (pc + 2) al st S I)
  | .iload_n n => gd (ln = 1) (ldL n 0 (pc + 1) al st S I)
  | .imul => gd (ln = 1) (bin (fun x y => x * y) pc al st S I)
  | .ineg => gd (ln = 1) (una (fun x => -x) pc al st S I)
  | .invokespecial idx => gd (ln = 3) (call 2 mi idx pc al st S I)
  | .invokestatic idx => gd (ln = 3) (call 0 mi idx pc al st S I)
  | .invokevirtual idx => gd (ln = 3) (call 1 mi idx pc al st S I)
  | .ior => gd (ln = 1) (bin iOr pc al st S I)
  | .irem => gd (ln = 1) (match st with | (0, y) :: (0, x) :: r => gd (w y ≠ 0) (nx (pc + 1) al ((0, iRem x y) :: r) S I) | _ => none)
  | .ireturn => gd (ln = 1) (retI mi st S I)
  | .ishl => gd (ln = 1) (bin iShl pc al st S I)
  | .ishr => gd (ln = 1) (bin iShr pc al st S I)
  | .istore n => gd (ln = 2) (stL n 0 (pc + 2) al st S I)
  | .istore_n n => gd (ln = 1) (stL n 0 (pc + 1) al st S I)
  | .isub => gd (ln = 1) (bin (fun x y => x - y) pc al st S I)
  | .iushr => gd (ln = 1) (bin iUshr pc al st S I)
  | .ixor => gd (ln = 1) (bin iXor pc al st S I)
  | .laload => gd (ln = 1) (aldJ pc al st S I)
  | .lastore => gd (ln = 1) (astJ pc al st S I)
  | .lcmp => gd (ln = 1) (match st with | (1, y) :: (1, x) :: r => nx (pc + 1) al ((0, lCmp x y) :: r) S I | _ => none)
  | .lconst z => gd (ln = 1) (nx (pc + 1) al ((1, (z : Nat)) :: st) S I)
  | .ldc idx => gd (ln = 2) (match lki (mC mi) idx with | some q => nx (pc + 2) al ((0, q.1) :: st) S I | none => match lks (mC mi) idx with | some q => nx (pc + 2) al ((2, -10 - (q.1 : Int)) :: st) S I | none => none)
  | .ldc_w idx => gd (ln = 3) (match lki (mC mi) idx with | some q => nx (pc + 3) al ((0, q.1) :: st) S I | none => match lks (mC mi) idx with | some q => nx (pc + 3) al ((2, -10 - (q.1 : Int)) :: st) S I | none => none)
  | .ldc2_w idx => gd (ln = 3) (match lkl (mC mi) idx with | some q => nx (pc + 3) al ((1, q.1) :: st) S I | none => none)
  | .lload n => gd (ln = 2) (ldL n 1 (pc + 2) al st S I)
  | .lload_n n => gd (ln = 1) (ldL n 1 (pc + 1) al st S I)
  | .lookupswitch d ps => swl d ps pc al st S I
  | .lreturn => gd (ln = 1) (match st with | [(1, v)] => if mR mi = some .long then some (.inr (.inl ((1, v), S, I))) else none | _ => none)
  | .lstore n => gd (ln = 2) (stJ n (pc + 2) al st S I)
  | .lstore_n n => gd (ln = 1) (stJ n (pc + 1) al st S I)
  | .newarray t => gd (ln = 2) (newT t pc al st S I)
  | .new idx => gd (ln = 3) (newO mi idx pc al st S I)
  | .pop => gd (ln = 1) (match st with | x :: r => if x.1 = 1 then none else nx (pc + 1) al r S I | _ => none)
  | .putfield idx => gd (ln = 3) (putf mi idx pc al st S I)
  | .return_ => gd (ln = 1) (match st with | [] => if mR mi = none then some (.inr (.inl (uU, S, I))) else none | _ => none)
  | .sipush z => gd (ln = 3 ∧ -32768 ≤ z ∧ z < 32768) (nx (pc + 3) al ((0, z) :: st) S I)
  | .tableswitch d lo hi offs => swt d lo hi offs pc al st S I
  | _ => none
def st1 (mi : Nat) (pc : Nat) (al st : List AV) (S : SS) (I : II) : SR := match decode (mB mi) pc with
  | .ok q => st2 mi q.1 q.2 pc al st S I
  | .error _ => none
abbrev RR : Type := Option (AV × SS × II)
def psh (v : AV) (r : List AV) : List AV := if v.1 = 9 then r else v :: r
/-- the run of a method from a place on: n steps at most, calls at most d deep -/
def ex : Nat → Nat → Nat → Nat → List AV → List AV → SS → II → RR
  | 0, _, _, _, _, _, _, _ => none
  | n + 1, d, mi, pc, al, st, S, I => match st1 mi pc al st S I with
    | none => none
    | some (.inl q) => ex n d mi q.1 q.2.1 q.2.2.1 q.2.2.2.1 q.2.2.2.2
    | some (.inr (.inl q)) => some q
    | some (.inr (.inr q)) => match d with
      | 0 => none
      | d + 1 => match ex n d q.1 0 (ent q.1 q.2.1) [] S I with
        | none => none
        | some r => ex n (d + 1) mi (pc + 3) al (psh r.1 q.2.2) r.2.1 r.2.2
