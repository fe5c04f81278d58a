section
/-! THE ABSTRACT MACHINE: values (tag, number): 0 int, 1 long, 2 reference by its cell's number, 3 unset; memory by cell number and place -/
abbrev VV : Type := Nat × Int
abbrev MM : Type := Int → Int → Int
abbrev AL : Type := Option (Nat × Nat × Nat)
abbrev QQ : Type := Int → AL → MM → Prop
abbrev KK : Type := Nat → List VV → List VV → AL → MM → Prop
abbrev vI (x : Int) : VV := (0, x)
abbrev vL (x : Int) : VV := (1, x)
abbrev vR (x : Int) : VV := (2, x)
abbrev vU : VV := (3, 0)
def mup (μ : MM) (r i x : Int) : MM := fun a b => if a = r ∧ b = i then x else μ a b
def mcopy (μ : MM) (r i r' i' n : Int) : MM := fun a b => if a = r' ∧ i' ≤ b ∧ b < i' + n then μ r (i + (b - i')) else μ a b
def mrow (μ : MM) (r : Int) (f : Int → Int) : MM := fun a b => if a = r then f b else μ a b
def o_add (a b : Int) : Int := (Int32.ofInt a + Int32.ofInt b).toInt
def o_sub (a b : Int) : Int := (Int32.ofInt a - Int32.ofInt b).toInt
def o_mul (a b : Int) : Int := (Int32.ofInt a * Int32.ofInt b).toInt
def o_div (a b : Int) : Int := (Int32.ofInt a / Int32.ofInt b).toInt
def o_rem (a b : Int) : Int := (Int32.ofInt a - Int32.ofInt a / Int32.ofInt b * Int32.ofInt b).toInt
def o_neg (a : Int) : Int := (-(Int32.ofInt a)).toInt
def o_and (a b : Int) : Int := (Int32.ofInt a &&& Int32.ofInt b).toInt
def o_or (a b : Int) : Int := (Int32.ofInt a ||| Int32.ofInt b).toInt
def o_xor (a b : Int) : Int := (Int32.ofInt a ^^^ Int32.ofInt b).toInt
def o_shl (a b : Int) : Int := (Int32.ofInt a <<< (Int32.ofInt b &&& 31)).toInt
def o_shr (a b : Int) : Int := (Int32.ofInt a >>> (Int32.ofInt b &&& 31)).toInt
def o_ushr (a b : Int) : Int := (((Int32.ofInt a).toUInt32 >>> ((Int32.ofInt b).toUInt32 &&& Int32.toUInt32 31)).toInt32).toInt
def o_i2b (a : Int) : Int := ((Int32.ofInt a).toInt8.toInt32).toInt
def o_i2c (a : Int) : Int := (((Int32.ofInt a).toUInt32 % 65536).toInt32).toInt
def o_l2i (a : Int) : Int := ((Int64.ofInt a).toInt32).toInt
def o_ladd (a b : Int) : Int := (Int64.ofInt a + Int64.ofInt b).toInt
def o_lsub (a b : Int) : Int := (Int64.ofInt a - Int64.ofInt b).toInt
def o_lmul (a b : Int) : Int := (Int64.ofInt a * Int64.ofInt b).toInt
def o_ldiv (a b : Int) : Int := (Int64.ofInt a / Int64.ofInt b).toInt
def o_lcmp (a b : Int) : Int := if a < b then -1 else if a = b then 0 else 1
def ccmp : ClassFile.Cond → Int → Int → Prop
  | .eq, x, y => x = y
  | .ne, x, y => ¬ x = y
  | .lt, x, y => x < y
  | .ge, x, y => y ≤ x
  | .gt, x, y => y < x
  | .le, x, y => x ≤ y
def sh (r : Int) : Nat × Int := match r with
  | .negSucc _ => (99, 0)
  | .ofNat n => bif Nat.blt n 170 then shT.get n else bif Nat.blt n 1030 then (bif Nat.blt n 1000 then (99, 0) else (13, 2)) else bif Nat.blt n 2030 then (bif Nat.blt n 2000 then (99, 0) else (21, ((sbT.get (n - 2000)).length : Int))) else bif Nat.beq n 3000 then (26, 0) else (99, 0)
def sf (r k : Int) : Int := match r, k with
  | .ofNat n, .ofNat j => bif Nat.blt n 170 then (sfT.get n).getD j 0 else bif Nat.blt n 1000 then 0 else bif Nat.blt n 1030 then (bif Nat.beq j 0 then ((n + 1000 : Nat) : Int) else 0) else 0
  | _, _ => 0
def alen (μ : MM) (r : Int) : Int := match sh r with
  | (26, _) => μ 3000 (-1)
  | (_, n) => n
def rdb (μ : MM) (r i : Int) : Int := match r with
  | .negSucc _ => 0
  | .ofNat n => bif Nat.blt n 2000 then μ r i else (sbT.get (n - 2000)).getD i.toNat 0
/-- the cell is made already -/
def okr (al : AL) (r : Int) : Bool := match al with
  | none => true
  | some (z, _, _) => Nat.blt r.toNat z
def trunc (t : Nat) (ls : List VV) : List VV := match t with
  | 0 => ls
  | t + 1 => ls.take t ++ List.replicate (ls.length - t) vU
def kill (k : Nat) (ls : List VV) : List VV := match k with
  | 0 => ls
  | k + 1 => match ls[k]? with
    | some (1, _) => ls.set k vU
    | _ => ls
def sto1 (k : Nat) (v : VV) (ls : List VV) : Option (List VV) := bif Nat.blt k ls.length then some ((kill k ls).set k v) else none
def sto2 (k : Nat) (v : VV) (ls : List VV) : Option (List VV) := bif Nat.blt (k + 1) ls.length then some (((kill k ls).set k v).set (k + 1) vU) else none
abbrev SR : Type := Option (Option Prop × List VV × List VV × AL × MM)
def ld (t k : Nat) (ls st : List VV) (al : AL) (μ : MM) : SR := match ls[k]? with
  | some (t', x) => bif Nat.beq t' t then some (none, ls, (t, x) :: st, al, μ) else none
  | none => none
def sv1 (t k : Nat) (ls st : List VV) (al : AL) (μ : MM) : SR := match st with
  | (t', x) :: st => bif Nat.beq t' t then (match sto1 k (t, x) ls with | some ls => some (none, ls, st, al, μ) | none => none) else none
  | [] => none
def sv2 (k : Nat) (ls st : List VV) (al : AL) (μ : MM) : SR := match st with
  | (1, x) :: st => (match sto2 k (1, x) ls with | some ls => some (none, ls, st, al, μ) | none => none)
  | _ => none
def bi (f : Int → Int → Int) (ls st : List VV) (al : AL) (μ : MM) : SR := match st with
  | (0, b) :: (0, a) :: st => some (none, ls, vI (f a b) :: st, al, μ)
  | _ => none
def biD (f : Int → Int → Int) (ls st : List VV) (al : AL) (μ : MM) : SR := match st with
  | (0, b) :: (0, a) :: st => some (some (¬ b = 0), ls, vI (f a b) :: st, al, μ)
  | _ => none
def bl (f : Int → Int → Int) (ls st : List VV) (al : AL) (μ : MM) : SR := match st with
  | (1, b) :: (1, a) :: st => some (none, ls, vL (f a b) :: st, al, μ)
  | _ => none
def blD (f : Int → Int → Int) (ls st : List VV) (al : AL) (μ : MM) : SR := match st with
  | (1, b) :: (1, a) :: st => some (some (¬ b = 0), ls, vL (f a b) :: st, al, μ)
  | _ => none
def un (t t' : Nat) (f : Int → Int) (ls st : List VV) (al : AL) (μ : MM) : SR := match st with
  | (t0, a) :: st => bif Nat.beq t0 t then some (none, ls, (t', f a) :: st, al, μ) else none
  | [] => none
def gets (c : Nat) (k v : Int) (ls st : List VV) (al : AL) (μ : MM) : SR := match st with
  | (2, r) :: st => bif Nat.beq (sh r).1 c && okr al r then (match v with
    | 0 => some (none, ls, vI (μ r k) :: st, al, μ)
    | 1 => some (none, ls, vL (μ r k) :: st, al, μ)
    | 2 => some (none, ls, vR (bif Nat.beq c 13 then sf r k else match al with | none => sf r k | some _ => μ r k) :: st, al, μ)
    | 3 => some (none, ls, vR (μ r k) :: st, al, μ)
    | 4 => some (none, ls, vI (μ r k) :: st, al, μ)
    | 5 => some (none, ls, vI (μ r k) :: st, al, μ)
    | 6 => bif Nat.beq c 13 then some (none, ls, vI 0 :: st, al, μ) else none
    | _ => none) else none
  | _ => none
def puts (c : Nat) (k v : Int) (ls st : List VV) (al : AL) (μ : MM) : SR := match st with
  | (t, x) :: (2, r) :: st => bif Nat.beq (sh r).1 c && Nat.blt c 13 && okr al r then (match v with
    | 0 => bif Nat.beq t 0 then some (none, ls, st, al, mup μ r k x) else none
    | 1 => bif Nat.beq t 1 then some (none, ls, st, al, mup μ r k x) else none
    | 2 => bif Nat.beq t 2 then (match al with | none => none | some _ => some (none, ls, st, al, mup μ r k x)) else none
    | 3 => bif Nat.beq t 2 then some (none, ls, st, al, mup μ r k x) else none
    | 4 => bif Nat.beq t 0 then some (some (x = 0 ∨ x = 1), ls, st, al, mup μ r k x) else none
    | 5 => bif Nat.beq t 0 then some (some (0 ≤ x ∧ x ≤ 65535), ls, st, al, mup μ r k x) else none
    | _ => none) else none
  | _ => none
def ard (ok : Nat → Bool) (t : Nat) (f : MM → Int → Int → Int) (ls st : List VV) (al : AL) (μ : MM) : SR := match st with
  | (0, i) :: (2, r) :: st => bif ok (sh r).1 && okr al r then some (some (0 ≤ i ∧ i < alen μ r), ls, (t, f μ r i) :: st, al, μ) else none
  | _ => none
def awr (k t : Nat) (g : Int → Option Prop) (ls st : List VV) (al : AL) (μ : MM) : SR := match st with
  | (t', x) :: (0, i) :: (2, r) :: st => bif Nat.beq t' t && Nat.beq (sh r).1 k && Nat.blt r.toNat 1000 && okr al r then (match g x with
    | none => some (some (0 ≤ i ∧ i < (sh r).2), ls, st, al, mup μ r i x)
    | some c => some (some ((0 ≤ i ∧ i < (sh r).2) ∧ c), ls, st, al, mup μ r i x)) else none
  | _ => none
/-- a made cell of shape k and length n: the next one in order, within the method's room -/
def mk1 (y k : Nat) (n : Int) (ls st : List VV) (al : AL) (μ : MM) : SR := match al with
  | none => none
  | some (z, c, s) => bif Nat.beq (sh (z : Int)).1 k && decide ((sh (z : Int)).2 = n) && Nat.ble (c + 1) (miT.get y).2.1 && Nat.ble (s + n.toNat) (miT.get y).2.2 then some (none, ls, vR (z : Int) :: st, some (z + 1, c + 1, s + n.toNat), μ) else none
def fwT (r : Int) : List Int := match r with
  | .ofNat n => bif Nat.beq n 3001 then [0, 10, 20, 4, 5, 12, 8, 10] else bif Nat.beq n 3002 then [0, 60, 50, 20, 30, 90, 30, 80] else []
  | _ => []
def stp (y : Nat) (i : Instr) (n : Nat) (u v : Int) (ls st : List VV) (al : AL) (μ : MM) : SR := match i with
  | .iconst k => some (none, ls, vI k :: st, al, μ)
  | .bipush k => some (none, ls, vI k :: st, al, μ)
  | .sipush k => some (none, ls, vI k :: st, al, μ)
  | .lconst k => some (none, ls, vL ((k.val : Nat) : Int) :: st, al, μ)
  | .ldc _ => (match n with | 0 => some (none, ls, vI u :: st, al, μ) | 1 => some (none, ls, vR u :: st, al, μ) | _ => none)
  | .ldc_w _ => (match n with | 0 => some (none, ls, vI u :: st, al, μ) | _ => none)
  | .ldc2_w _ => (match n with | 0 => some (none, ls, vL u :: st, al, μ) | _ => none)
  | .iload k => ld 0 k ls st al μ
  | .iload_n k => ld 0 k.val ls st al μ
  | .lload k => ld 1 k ls st al μ
  | .lload_n k => ld 1 k.val ls st al μ
  | .aload k => ld 2 k ls st al μ
  | .aload_n k => ld 2 k.val ls st al μ
  | .istore k => sv1 0 k ls st al μ
  | .istore_n k => sv1 0 k.val ls st al μ
  | .lstore k => sv2 k ls st al μ
  | .lstore_n k => sv2 k.val ls st al μ
  | .astore k => sv1 2 k ls st al μ
  | .astore_n k => sv1 2 k.val ls st al μ
  | .iinc k d => (match ls[k]? with | some (0, x) => some (none, ls.set k (vI (o_add x d)), st, al, μ) | _ => none)
  | .dup => (match st with | (t, x) :: st => bif Nat.beq t 1 then none else some (none, ls, (t, x) :: (t, x) :: st, al, μ) | [] => none)
  | .dup2 => (match st with | (t, x) :: (t', x') :: st => bif Nat.beq t 1 || Nat.beq t' 1 then none else some (none, ls, (t, x) :: (t', x') :: (t, x) :: (t', x') :: st, al, μ) | _ => none)
  | .pop => (match st with | (t, _) :: st => bif Nat.beq t 1 then none else some (none, ls, st, al, μ) | [] => none)
  | .iadd => bi o_add ls st al μ
  | .isub => bi o_sub ls st al μ
  | .imul => bi o_mul ls st al μ
  | .idiv => biD o_div ls st al μ
  | .irem => biD o_rem ls st al μ
  | .iand => bi o_and ls st al μ
  | .ior => bi o_or ls st al μ
  | .ixor => bi o_xor ls st al μ
  | .ishl => bi o_shl ls st al μ
  | .ishr => bi o_shr ls st al μ
  | .iushr => bi o_ushr ls st al μ
  | .ineg => un 0 0 o_neg ls st al μ
  | .i2b => un 0 0 o_i2b ls st al μ
  | .i2c => un 0 0 o_i2c ls st al μ
  | .i2l => un 0 1 (fun a => a) ls st al μ
  | .l2i => un 1 0 o_l2i ls st al μ
  | .ladd => bl o_ladd ls st al μ
  | .lsub => bl o_lsub ls st al μ
  | .lmul => bl o_lmul ls st al μ
  | .ldiv => blD o_ldiv ls st al μ
  | .lcmp => (match st with | (1, b) :: (1, a) :: st => some (none, ls, vI (o_lcmp a b) :: st, al, μ) | _ => none)
  | .getfield _ => gets n u v ls st al μ
  | .putfield _ => puts n u v ls st al μ
  | .getstatic _ => (match n with | 0 => some (none, ls, vI u :: st, al, μ) | 1 => some (none, ls, vR u :: st, al, μ) | _ => none)
  | .arraylength => (match st with | (2, r) :: st => bif Nat.ble 20 (sh r).1 && Nat.ble (sh r).1 26 && okr al r then some (none, ls, vI (alen μ r) :: st, al, μ) else none | _ => none)
  | .iaload => ard (fun k => Nat.beq k 20 || Nat.beq k 26) 0 (fun μ r i => μ r i) ls st al μ
  | .baload => ard (fun k => Nat.beq k 21 || Nat.beq k 23) 0 rdb ls st al μ
  | .caload => ard (fun k => Nat.beq k 22) 0 (fun μ r i => μ r i) ls st al μ
  | .laload => ard (fun k => Nat.beq k 24) 1 (fun μ r i => μ r i) ls st al μ
  | .aaload => (match al with | none => ard (fun k => Nat.beq k 25) 2 (fun _ r i => r + 1 + i) ls st al μ | some _ => none)
  | .iastore => awr 20 0 (fun _ => none) ls st al μ
  | .bastore => (match st with | _ :: _ :: (2, r) :: _ => bif Nat.beq (sh r).1 21 then awr 21 0 (fun x => some (-128 ≤ x ∧ x ≤ 127)) ls st al μ else awr 23 0 (fun x => some (x = 0 ∨ x = 1)) ls st al μ | _ => none)
  | .castore => awr 22 0 (fun x => some (0 ≤ x ∧ x ≤ 65535)) ls st al μ
  | .lastore => awr 24 1 (fun _ => none) ls st al μ
  | .checkcast _ => (match n, st with | 0, (2, r) :: st => bif Nat.beq (sh r).1 20 && okr al r then some (none, ls, vR r :: st, al, μ) else none | _, _ => none)
  | .new _ => mk1 y n (sh (match al with | some (z, _, _) => (z : Int) | none => 0)).2 ls st al μ
  | .newarray _ => (match st with | (0, k) :: st => bif Nat.blt n 25 then mk1 y n k ls st al μ else none | _ => none)
  | .multianewarray _ _ => none
  | .invokespecial _ => bif Nat.beq n 1000 then (match st with | (2, r) :: st => bif Nat.blt (sh r).1 13 && okr al r && Nat.ble ((st.map (fun v => if v.1 = 1 then 2 else 1)).sum) 8 then some (none, ls, st, al, μ) else none | _ => none) else none
  | .invokestatic _ => bif Nat.beq n 1001 then (match st with
    | (0, k) :: (0, j) :: (2, r') :: (0, i) :: (2, r) :: st => bif Nat.beq (sh r).1 20 && Nat.beq (sh r').1 20 && Nat.blt r.toNat 1000 && Nat.blt r'.toNat 1000 && decide (¬ r = r') && okr al r && okr al r' && Nat.ble ((st.map (fun v => if v.1 = 1 then 2 else 1)).sum) 8 then
        some (some (0 ≤ i ∧ 0 ≤ j ∧ 0 ≤ k ∧ i + k ≤ (sh r).2 ∧ j + k ≤ (sh r').2), ls, st, al, mcopy μ r i r' j k) else none
    | _ => none) else none
  | .invokevirtual _ => none
  | _ => none
def swt (x lo : Int) (offs : List Int) (K : Int → Prop) : Prop := match offs with
  | [] => True
  | o :: os => (x = lo → K o) ∧ swt x (lo + 1) os K
def swl (x : Int) (ps : List (Int × Int)) (d : Prop) (K : Int → Prop) : Prop := match ps with
  | [] => d
  | q :: ps => (x = q.1 → K q.2) ∧ (¬ x = q.1 → swl x ps d K)
def ent (n : Nat) (as : List VV) : List VV := match as with
  | [] => List.replicate n vU
  | (1, x) :: as => (1, x) :: vU :: ent (n - 2) as
  | v :: as => v :: ent (n - 1) as
def alc (al : AL) (y z : Nat) : Option (AL × (AL → AL)) := match al with
  | none => bif Nat.beq (miT.get z).2.1 0 && Nat.beq (miT.get z).2.2 0 then some (none, fun a => a) else none
  | some (w, c, s) => bif Nat.ble (c + (miT.get z).2.1) (miT.get y).2.1 && Nat.ble (s + (miT.get z).2.2) (miT.get y).2.2 then some (some (w, 0, 0), fun a => match a with | none => none | some (w', _, _) => some (w', c + (miT.get z).2.1, s + (miT.get z).2.2)) else none
def rcv (al : AL) (b : Bool) (n : Nat) (as : List VV) : Bool := Nat.ble ((as.map (fun v => if v.1 = 1 then 2 else 1)).sum) (miT.get n).1 && match b with
  | false => Nat.beq (mcT.get n) 99
  | true => match as with
    | (2, r) :: _ => Nat.beq (sh r).1 (mcT.get n) && Nat.ble (mcT.get n) 13 && okr al r
    | _ => false
def wcall (cl : Nat → QQ → List VV → AL → MM → Prop) (b : Bool) (y : Nat) (K : KK) (pc : Nat) (n : Nat) (u v : Int) (ls st : List VV) (al : AL) (μ : MM) : Prop :=
  bif rcv al b n (st.take u.toNat).reverse && Nat.ble u.toNat st.length && Nat.ble (((st.drop u.toNat).map (fun v => if v.1 = 1 then 2 else 1)).sum) 8 && Nat.blt n 286 then
    (match alc al y n with
    | none => False
    | some (a, f) => cl n (fun r a' μ' => K (pc + 3) ls (match v with | 0 => vI r :: st.drop u.toNat | 1 => vL r :: st.drop u.toNat | 2 => vR r :: st.drop u.toNat | _ => st.drop u.toNat) (f a') μ') (st.take u.toNat).reverse a μ)
  else False
/-- at a return: the room of a making method is used up just so -/
def aok (y : Nat) (al : AL) : Bool := match al with
  | none => true
  | some (_, c, s) => Nat.beq c (miT.get y).2.1 && Nat.beq s (miT.get y).2.2
def wgo (K : KK) (pc len : Nat) (r : SR) : Prop := match r with
  | none => False
  | some (none, ls, st, al, μ) => K (pc + len) ls st al μ
  | some (some c, ls, st, al, μ) => c ∧ K (pc + len) ls st al μ
def wpi (cl : Nat → QQ → List VV → AL → MM → Prop) (y : Nat) (Q : QQ) (K : KK) (pc : Nat) (i : Instr) (len n : Nat) (u v : Int) (ls st : List VV) (al : AL) (μ : MM) : Prop := match i with
  | .goto _ => K n ls st al μ
  | .ifCond c _ => (match st with | (0, x) :: st => (ccmp c x 0 → K n ls st al μ) ∧ (¬ ccmp c x 0 → K (pc + 3) ls st al μ) | _ => False)
  | .if_icmp c _ => (match st with | (0, b) :: (0, a) :: st => (ccmp c a b → K n ls st al μ) ∧ (¬ ccmp c a b → K (pc + 3) ls st al μ) | _ => False)
  | .tableswitch d lo hi offs => (match st with | (0, x) :: st => swt x lo offs.toList (fun o => K ((pc : Int) + o).toNat ls st al μ) ∧ ((x < lo ∨ hi < x) → K ((pc : Int) + d).toNat ls st al μ) | _ => False)
  | .lookupswitch d ps => (match st with | (0, x) :: st => swl x ps.toList (K ((pc : Int) + d).toNat ls st al μ) (fun o => K ((pc : Int) + o).toNat ls st al μ) | _ => False)
  | .ireturn => bif aok y al then (match st with | [(0, x)] => (match v with | 0 => Q x al μ | 1 => (x = 0 ∨ x = 1) ∧ Q x al μ | 2 => (0 ≤ x ∧ x ≤ 65535) ∧ Q x al μ | 3 => (-128 ≤ x ∧ x ≤ 127) ∧ Q x al μ | _ => False) | _ => False) else False
  | .lreturn => bif aok y al then (match st with | [(1, x)] => Q x al μ | _ => False) else False
  | .areturn => bif aok y al then (match st with | [(2, x)] => Q x al μ | _ => False) else False
  | .return_ => bif aok y al then (match st with | [] => Q 0 al μ | _ => False) else False
  | .invokestatic k => bif Nat.blt n 1000 then wcall cl false y K pc n u v ls st al μ else wgo K pc len (stp y (.invokestatic k) n u v ls st al μ)
  | .invokevirtual k => bif Nat.blt n 1000 then wcall cl true y K pc n u v ls st al μ else wgo K pc len (stp y (.invokevirtual k) n u v ls st al μ)
  | .invokespecial k => bif Nat.blt n 1000 then wcall cl true y K pc n u v ls st al μ else wgo K pc len (stp y (.invokespecial k) n u v ls st al μ)
  | i => wgo K pc len (stp y i n u v ls st al μ)
def wp1 (cl : Nat → QQ → List VV → AL → MM → Prop) (y : Nat) (Q : QQ) (K : KK) (pc : Nat) (ls st : List VV) (al : AL) (μ : MM) : Prop :=
  match (ctA.get y).get pc with
  | (pc', i, len, t, n, u, v) => bif Nat.beq pc' pc then wpi cl y Q K pc i len n u v (trunc t ls) st al μ else False
abbrev PT : Type := Nat → QQ → Nat → List VV → List VV → AL → MM → Prop
def Zmono (P : PT) : Prop := ∀ y (Q Q' : QQ) pc ls st al μ, (∀ x a m, Q x a m → Q' x a m) → P y Q pc ls st al μ → P y Q' pc ls st al μ
def zcl (P : PT) : Nat → QQ → List VV → AL → MM → Prop := fun z Q as al μ => P z Q 0 (ent (miT.get z).1 as) [] al μ
def Zclo (P : PT) : Prop := ∀ y Q pc ls st al μ, y < 286 → wp1 (zcl P) y Q (P y Q) pc ls st al μ → P y Q pc ls st al μ
def Z (y : Nat) (Q : QQ) (pc : Nat) (ls st : List VV) (al : AL) (μ : MM) : Prop := ∀ P : PT, Zmono P → Zclo P → P y Q pc ls st al μ
end
