/-! THE INTERPRETER: one instruction, in continuation form, over any memory; then runs, depth, unfolding. -/
def uns : Value := .retAddr 0
def mk2 : Value := .retAddr 1
def iI (z : Int) : Int32 := Int32.ofInt z
def lI (z : Int) : Int64 := Int64.ofInt z
def ix (i : Int32) : Nat := i.toNatClampNeg
def inb (i : Int32) (n : Nat) : Bool := !(decide (i < 0)) && Nat.blt (ix i) n
def irm (x y : Int32) : Int32 := x - x / y * y
def gb {α : Type} (b : Bool) (x : Option α) : Option α := match b with
  | true => x
  | false => none
def fres (own n : Nat) : Option (Nat × Nat × Nat × Bool × Nat) := lkN (fresT.getD own []) n
def mrow (own n : Nat) : Option (Nat × Nat × Nat × Nat × Nat) := lkN (mresT.getD own []) n
def mres (own n : Nat) : Option (MD × Nat × Nat) := match mrow own n with
  | some q => some (mds.getD q.1 m_law, q.2.1, q.2.2.1)
  | none => none
def oini (own n : Nat) : Bool := (oiniT.getD own []).any (fun k => Nat.beq k.1 n)
def cres (own n : Nat) : Option (Nat × Nat × Nat × Nat × Nat) := lkN (cresT.getD own []) n
def ares (own n : Nat) : Option (Nat × Nat × Nat) := lkN (anewT.getD own []) n
def kint (own n : Nat) : Option (Int × Nat) := lkN (kintT.getD own []) n
def klong (own n : Nat) : Option (Int × Nat) := lkN (klongT.getD own []) n
def kstr (own n : Nat) : Option (Nat × Nat) := lkN (kstrT.getD own []) n
def gst (own n : Nat) : Option (Nat × Nat) := lkN (gstT.getD own []) n
def sh0 (a : Nat) : Nat × Nat := match Nat.ble 100 a with
  | true => shT.getD (a - 100) (0, 0)
  | false => match Nat.beq a 1 with
    | true => (1, 0)
    | false => match Nat.blt 9 a && Nat.blt a 54 with
      | true => match Nat.beq (a % 2) 0 with
        | true => (2, 0)
        | false => (3, (txtT.getD ((a - 11) / 2) []).length)
      | false => (0, 0)
def txt (a k : Nat) : Int32 := iI ((txtT.getD ((a - 11) / 2) []).getD k 0)
/-- the memory's operations: shape, reads (int, long, reference), writes, a new cell -/
abbrev Ops (μ : Type) : Type := (μ → Nat → Nat × Nat) × (μ → Nat → Nat → Int32) × (μ → Nat → Nat → Int64) × (μ → Nat → Nat → Nat) × (μ → Nat → Nat → Int32 → μ) × (μ → Nat → Nat → Int64 → μ) × (μ → Nat → Nat → Nat → Option μ) × (μ → Nat × Nat → Nat → Option (Nat × μ))
abbrev Rs (μ : Type) : Type := Option (Value × μ)
section Core
variable {μ : Type}
def oS (O : Ops μ) : μ → Nat → Nat × Nat := O.1
def oI (O : Ops μ) : μ → Nat → Nat → Int32 := O.2.1
def oL (O : Ops μ) : μ → Nat → Nat → Int64 := O.2.2.1
def oR (O : Ops μ) : μ → Nat → Nat → Nat := O.2.2.2.1
def pI (O : Ops μ) : μ → Nat → Nat → Int32 → μ := O.2.2.2.2.1
def pL (O : Ops μ) : μ → Nat → Nat → Int64 → μ := O.2.2.2.2.2.1
def pR (O : Ops μ) : μ → Nat → Nat → Nat → Option μ := O.2.2.2.2.2.2.1
def oN (O : Ops μ) : μ → Nat × Nat → Nat → Option (Nat × μ) := O.2.2.2.2.2.2.2
def ldI (ls : List Value) (k : Nat) (f : Int32 → Rs μ) : Rs μ := match ls[k]? with
  | some (.int x) => f x
  | _ => none
def ldA (ls : List Value) (k : Nat) (f : Nat → Rs μ) : Rs μ := match ls[k]? with
  | some (.ref x) => f x
  | _ => none
def ldL (ls : List Value) (k : Nat) (f : Int64 → Rs μ) : Rs μ := match ls[k]? with
  | some (.long x) => match ls[k + 1]? with
    | some (.retAddr 1) => f x
    | _ => none
  | _ => none
def u1 (st : List Value) (f : Int32 → List Value → Rs μ) : Rs μ := match st with
  | .int x :: r => f x r
  | _ => none
def b2 (st : List Value) (f : Int32 → Int32 → List Value → Rs μ) : Rs μ := match st with
  | .int y :: .int x :: r => f x y r
  | _ => none
def ul (st : List Value) (f : Int64 → List Value → Rs μ) : Rs μ := match st with
  | .long x :: r => f x r
  | _ => none
def bl (st : List Value) (f : Int64 → Int64 → List Value → Rs μ) : Rs μ := match st with
  | .long y :: .long x :: r => f x y r
  | _ => none
def li (st : List Value) (f : Int64 → Int32 → List Value → Rs μ) : Rs μ := match st with
  | .int y :: .long x :: r => f x y r
  | _ => none
def ua (st : List Value) (f : Nat → List Value → Rs μ) : Rs μ := match st with
  | .ref a :: r => f a r
  | _ => none
def ba (st : List Value) (f : Nat → Nat → List Value → Rs μ) : Rs μ := match st with
  | .ref b :: .ref a :: r => f a b r
  | _ => none
def ai (st : List Value) (f : Nat → Int32 → List Value → Rs μ) : Rs μ := match st with
  | .int i :: .ref a :: r => f a i r
  | _ => none
def aii (st : List Value) (f : Nat → Int32 → Int32 → List Value → Rs μ) : Rs μ := match st with
  | .int v :: .int i :: .ref a :: r => f a i v r
  | _ => none
def ail (st : List Value) (f : Nat → Int32 → Int64 → List Value → Rs μ) : Rs μ := match st with
  | .long v :: .int i :: .ref a :: r => f a i v r
  | _ => none
def aia (st : List Value) (f : Nat → Int32 → Nat → List Value → Rs μ) : Rs μ := match st with
  | .ref v :: .int i :: .ref a :: r => f a i v r
  | _ => none
def ia (st : List Value) (f : Nat → Int32 → List Value → Rs μ) : Rs μ := match st with
  | .int v :: .ref a :: r => f a v r
  | _ => none
def la (st : List Value) (f : Nat → Int64 → List Value → Rs μ) : Rs μ := match st with
  | .long v :: .ref a :: r => f a v r
  | _ => none
def bb {α : Type} (b : Bool) (x y : α) : α := match b with
  | true => x
  | false => y
def oE {α β : Type} (o : Option α) (f : α → β) (g : β) : β := match o with
  | some q => f q
  | none => g
/-- a value of one word -/
def w1 : Value → Bool
  | .int _ => true
  | .ref _ => true
  | _ => false
def v1 (st : List Value) (f : Value → List Value → Rs μ) : Rs μ := match st with
  | v :: r => gb (w1 v) (f v r)
  | _ => none
def v2 (st : List Value) (f : Value → Value → List Value → Rs μ) : Rs μ := match st with
  | v :: u :: r => gb (w1 v && w1 u) (f v u r)
  | _ => none
/-- null, or a cell of ours -/
def rOk (x : Nat) : Bool := Nat.beq x 0 || Nat.ble 100 x
def bra (c : Jvm.ClassFile.ACond) (x y : Nat) (a b : Rs μ) : Rs μ := match c with
  | .eq => if x = y then a else b
  | .ne => if x = y then b else a
def br (c : Jvm.ClassFile.Cond) (x y : Int32) (a b : Rs μ) : Rs μ := match c with
  | .eq => if x = y then a else b
  | .ne => if x = y then b else a
  | .lt => if x < y then a else b
  | .ge => if x < y then b else a
  | .gt => if y < x then a else b
  | .le => if y < x then b else a
def tg (pc : Nat) (off : Int) : Nat := ((pc : Int) + off).toNat
def swt (x : Int32) (f : Int → Rs μ) (d : Rs μ) : Int → List Int → Rs μ
  | _, [] => d
  | k, o :: l => if x = iI k then f o else swt x f d (k + 1) l
def swl (x : Int32) (f : Int → Rs μ) (d : Rs μ) : List (Int × Int) → Rs μ
  | [] => d
  | (k, o) :: l => if x = iI k then f o else swl x f d l
def bI (o : Rs μ) (f : Int32 → μ → Rs μ) : Rs μ := match o with
  | some (.int r, m) => f r m
  | _ => none
def bL (o : Rs μ) (f : Int64 → μ → Rs μ) : Rs μ := match o with
  | some (.long r, m) => f r m
  | _ => none
def bR (o : Rs μ) (f : Nat → μ → Rs μ) : Rs μ := match o with
  | some (.ref r, m) => f r m
  | _ => none
def bV (o : Rs μ) (f : μ → Rs μ) : Rs μ := match o with
  | some (.null, m) => f m
  | _ => none
def catS (st : List Value) : Nat := (st.map fun v => v.category).sum
def ivk (K : MD → List Value → μ → Rs μ) (C : Nat → List Value → List Value → μ → Rs μ) (me : MD) (nx : Nat) (ls args rest : List Value) (m : μ) : Rs μ := match me.2.2.2.2.1 with
  | 0 => bV (K me args m) fun m => C nx ls rest m
  | 6 => bL (K me args m) fun r m => C nx ls (.long r :: rest) m
  | 7 => bR (K me args m) fun r m => C nx ls (.ref r :: rest) m
  | _ => bI (K me args m) fun r m => C nx ls (.int r :: rest) m
def oB (o : Option μ) (f : μ → Rs μ) : Rs μ := match o with
  | some m => f m
  | none => none
def oP (o : Option (Nat × μ)) (f : Nat → μ → Rs μ) : Rs μ := match o with
  | some q => f q.1 q.2
  | none => none
def oX {α : Type} (o : Option α) (f : α → Rs μ) : Rs μ := match o with
  | some q => f q
  | none => none
def sto (C : Nat → List Value → List Value → μ → Rs μ) (nx : Nat) (ls : List Value) (i : Nat) (v : Value) (r : List Value) (m : μ) : Rs μ := gb (Nat.blt i ls.length) (C nx (ls.set i v) r m)
def sto2 (C : Nat → List Value → List Value → μ → Rs μ) (nx : Nat) (ls : List Value) (i : Nat) (v : Int64) (r : List Value) (m : μ) : Rs μ := gb (Nat.blt (i + 1) ls.length) (C nx ((ls.set i (.long v)).set (i + 1) mk2) r m)
def isK (O : Ops μ) (m : μ) (a k : Nat) : Bool := Nat.beq (oS O m a).1 k
def at_ (O : Ops μ) (m : μ) (a k : Nat) (i : Int32) : Bool := Nat.beq (oS O m a).1 k && inb i (oS O m a).2
def nslots (k : Nat) : Nat := match k with
  | 44 => 16
  | 45 => 13
  | 46 => 20
  | _ => 0
def arrK (t : Jvm.ClassFile.ArrayType) : Nat := match t with
  | .int => 40
  | .byte => 41
  | .boolean => 42
  | .long => 43
  | _ => 0
def newA (O : Ops μ) (C : Nat → List Value → List Value → μ → Rs μ) (nx : Nat) (ls r : List Value) (m : μ) (k : Nat) (n : Int32) : Rs μ := gb (!(decide (n < 0)) && (Nat.ble (ix n) 100000 && !(Nat.beq k 0))) (oP (oN O m (k, ix n) (ix n)) fun a m => C nx ls (.ref a :: r) m)
def getF (O : Ops μ) (C : Nat → List Value → List Value → μ → Rs μ) (nx : Nat) (ls r : List Value) (m : μ) (a : Nat) (f : Nat × Nat × Nat × Bool × Nat) : Rs μ := gb (isK O m a f.1) (match f.2.2.1 with
  | 0 => C nx ls (.int (oI O m a f.2.1) :: r) m
  | 1 => C nx ls (.long (oL O m a f.2.1) :: r) m
  | 2 => C nx ls (.ref (oR O m a f.2.1) :: r) m
  | 3 => C nx ls (.int (oI O m a f.2.1) :: r) m
  | 4 => C nx ls (.int (iI 0) :: r) m
  | _ => C nx ls (.ref (a + 1) :: r) m)
def okFin (me : MD) (f : Nat × Nat × Nat × Bool × Nat) : Bool := match f.2.2.2.1 with
  | false => true
  | true => me.2.2.2.2.2 && Nat.beq f.1 (10 + me.2.1)
def putF (O : Ops μ) (C : Nat → List Value → List Value → μ → Rs μ) (me : MD) (nx : Nat) (ls st : List Value) (m : μ) (f : Nat × Nat × Nat × Bool × Nat) : Rs μ := gb (okFin me f) (match f.2.2.1 with
  | 0 => ia st fun a v r => gb (isK O m a f.1) (C nx ls r (pI O m a f.2.1 v))
  | 1 => la st fun a v r => gb (isK O m a f.1) (C nx ls r (pL O m a f.2.1 v))
  | 2 => ba st fun a v r => gb (isK O m a f.1) (oB (pR O m a f.2.1 v) fun m => C nx ls r m)
  | 3 => ia st fun a v r => gb (isK O m a f.1) (gb (decide (v = 0) || decide (v = 1)) (C nx ls r (pI O m a f.2.1 v)))
  | _ => none)
def ret1 (me : MD) (st : List Value) (m : μ) : Rs μ := match st with
  | [.int v] => match me.2.2.2.2.1 with
    | 1 => some (.int v, m)
    | 2 => gb (decide (v &&& 1 = v)) (some (.int v, m))
    | 3 => gb (decide (v.toInt8.toInt32 = v)) (some (.int v, m))
    | 4 => gb (decide (v.toUInt32.toUInt16.toUInt32.toInt32 = v)) (some (.int v, m))
    | _ => none
  | _ => none
def ins (O : Ops μ) (K : MD → List Value → μ → Rs μ) (C : Nat → List Value → List Value → μ → Rs μ) (me : MD) (pc nx : Nat) (ls st : List Value) (m : μ) (i : Jvm.ClassFile.Instr) : Rs μ := match i with
  | .iload_n k => ldI ls k.val fun x => C nx ls (.int x :: st) m
  | .iload k => ldI ls k fun x => C nx ls (.int x :: st) m
  | .aload_n k => ldA ls k.val fun x => C nx ls (.ref x :: st) m
  | .aload k => ldA ls k fun x => C nx ls (.ref x :: st) m
  | .lload_n k => ldL ls k.val fun x => C nx ls (.long x :: st) m
  | .lload k => ldL ls k fun x => C nx ls (.long x :: st) m
  | .istore_n k => u1 st fun x r => sto C nx ls k.val (.int x) r m
  | .istore k => u1 st fun x r => sto C nx ls k (.int x) r m
  | .astore_n k => ua st fun x r => sto C nx ls k.val (.ref x) r m
  | .astore k => ua st fun x r => sto C nx ls k (.ref x) r m
  | .lstore_n k => ul st fun x r => sto2 C nx ls k.val x r m
  | .lstore k => ul st fun x r => sto2 C nx ls k x r m
  | .iinc k n => ldI ls k fun x => sto C nx ls k (.int (x + iI n)) st m
  | .iconst n => C nx ls (.int (iI n) :: st) m
  | .bipush n => C nx ls (.int (iI n) :: st) m
  | .sipush n => C nx ls (.int (iI n) :: st) m
  | .lconst n => C nx ls (.long (lI n.val) :: st) m
  | .ldc k => oE (kint me.2.1 k) (fun z => C nx ls (.int (iI z.1) :: st) m) (oX (kstr me.2.1 k) fun a => C nx ls (.ref a.1 :: st) m)
  | .ldc_w k => oX (kint me.2.1 k) fun z => C nx ls (.int (iI z.1) :: st) m
  | .ldc2_w k => oX (klong me.2.1 k) fun z => C nx ls (.long (lI z.1) :: st) m
  | .iadd => b2 st fun x y r => C nx ls (.int (x + y) :: r) m
  | .isub => b2 st fun x y r => C nx ls (.int (x - y) :: r) m
  | .imul => b2 st fun x y r => C nx ls (.int (x * y) :: r) m
  | .idiv => b2 st fun x y r => gb (!(decide (y = 0))) (C nx ls (.int (x / y) :: r) m)
  | .irem => b2 st fun x y r => gb (!(decide (y = 0))) (C nx ls (.int (irm x y) :: r) m)
  | .ineg => u1 st fun x r => C nx ls (.int (-x) :: r) m
  | .iand => b2 st fun x y r => C nx ls (.int (x &&& y) :: r) m
  | .ior => b2 st fun x y r => C nx ls (.int (x ||| y) :: r) m
  | .ixor => b2 st fun x y r => C nx ls (.int (x ^^^ y) :: r) m
  | .ishl => b2 st fun x y r => C nx ls (.int (x <<< (y &&& 31)) :: r) m
  | .ishr => b2 st fun x y r => C nx ls (.int (x >>> (y &&& 31)) :: r) m
  | .iushr => b2 st fun x y r => C nx ls (.int ((x.toUInt32 >>> (y.toUInt32 &&& Int32.toUInt32 31)).toInt32) :: r) m
  | .ladd => bl st fun x y r => C nx ls (.long (x + y) :: r) m
  | .lsub => bl st fun x y r => C nx ls (.long (x - y) :: r) m
  | .lmul => bl st fun x y r => C nx ls (.long (x * y) :: r) m
  | .land => bl st fun x y r => C nx ls (.long (x &&& y) :: r) m
  | .lor => bl st fun x y r => C nx ls (.long (x ||| y) :: r) m
  | .lshl => li st fun x y r => C nx ls (.long (x <<< (y.toInt64 &&& 63)) :: r) m
  | .lshr => li st fun x y r => C nx ls (.long (x >>> (y.toInt64 &&& 63)) :: r) m
  | .lcmp => bl st fun x y r => C nx ls (.int (lg_cmp x y) :: r) m
  | .i2l => u1 st fun x r => C nx ls (.long x.toInt64 :: r) m
  | .l2i => ul st fun x r => C nx ls (.int x.toInt32 :: r) m
  | .i2b => u1 st fun x r => C nx ls (.int x.toInt8.toInt32 :: r) m
  | .i2s => u1 st fun x r => C nx ls (.int x.toInt16.toInt32 :: r) m
  | .i2c => u1 st fun x r => C nx ls (.int (x.toUInt32 % 65536).toInt32 :: r) m
  | .dup => v1 st fun v r => C nx ls (v :: v :: r) m
  | .pop => v1 st fun _ r => C nx ls r m
  | .dup_x1 => v2 st fun v u r => C nx ls (v :: u :: v :: r) m
  | .dup2 => v2 st fun v u r => C nx ls (v :: u :: v :: u :: r) m
  | .ifCond c off => u1 st fun x r => br c x 0 (C (tg pc off) ls r m) (C nx ls r m)
  | .if_icmp c off => b2 st fun x y r => br c x y (C (tg pc off) ls r m) (C nx ls r m)
  | .if_acmp c off => ba st fun x y r => gb (rOk x && rOk y) (bra c x y (C (tg pc off) ls r m) (C nx ls r m))
  | .ifnull off => ua st fun x r => gb (rOk x) (if x = 0 then C (tg pc off) ls r m else C nx ls r m)
  | .ifnonnull off => ua st fun x r => gb (rOk x) (if x = 0 then C nx ls r m else C (tg pc off) ls r m)
  | .goto off => C (tg pc off) ls st m
  | .tableswitch d lo _ offs => u1 st fun x r => swt x (fun o => C (tg pc o) ls r m) (C (tg pc d) ls r m) lo offs.toList
  | .lookupswitch d ps => u1 st fun x r => swl x (fun o => C (tg pc o) ls r m) (C (tg pc d) ls r m) ps.toList
  | .getfield k => oX (fres me.2.1 k) fun f => ua st fun a r => getF O C nx ls r m a f
  | .putfield k => oX (fres me.2.1 k) fun f => putF O C me nx ls st m f
  | .getstatic k => oX (gst me.2.1 k) fun q => bb (Nat.beq q.1 1) (C nx ls (.int (iI 1) :: st) m) (C nx ls (.ref 2 :: st) m)
  | .iaload => ai st fun a i r => bb (isK O m a 1) (gb (inb i (ix (oI O m 0 0))) (C nx ls (.int (oI O m a (ix i)) :: r) m)) (gb (at_ O m a 40 i) (C nx ls (.int (oI O m a (ix i)) :: r) m))
  | .baload => ai st fun a i r => bb (isK O m a 3) (gb (inb i (oS O m a).2) (C nx ls (.int (txt a (ix i)) :: r) m)) (gb (at_ O m a 41 i || at_ O m a 42 i) (C nx ls (.int (oI O m a (ix i)) :: r) m))
  | .laload => ai st fun a i r => gb (at_ O m a 43 i) (C nx ls (.long (oL O m a (ix i)) :: r) m)
  | .aaload => ai st fun a i r => gb (at_ O m a 44 i || at_ O m a 45 i || at_ O m a 46 i) (C nx ls (.ref (oR O m a (ix i)) :: r) m)
  | .iastore => aii st fun a i v r => gb (at_ O m a 40 i) (C nx ls r (pI O m a (ix i) v))
  | .bastore => aii st fun a i v r => bb (isK O m a 41) (gb (at_ O m a 41 i) (C nx ls r (pI O m a (ix i) v.toInt8.toInt32))) (gb (at_ O m a 42 i) (C nx ls r (pI O m a (ix i) (v &&& 1))))
  | .lastore => ail st fun a i v r => gb (at_ O m a 43 i) (C nx ls r (pL O m a (ix i) v))
  | .aastore => aia st fun a i v r => gb ((at_ O m a 44 i || at_ O m a 45 i || at_ O m a 46 i) && isK O m v (nslots (oS O m a).1)) (oB (pR O m a (ix i) v) fun m => C nx ls r m)
  | .arraylength => ua st fun a r => bb (isK O m a 1) (C nx ls (.int (oI O m 0 0) :: r) m) (gb (isK O m a 3 || isK O m a 40 || isK O m a 41 || isK O m a 42 || isK O m a 43 || isK O m a 44 || isK O m a 45 || isK O m a 46) (C nx ls (.int (iI (oS O m a).2) :: r) m))
  | .new k => oX (cres me.2.1 k) fun c => oP (oN O m (10 + c.1, 0) c.2.1) fun a m => C nx ls (.ref a :: st) m
  | .newarray t => u1 st fun n r => newA O C nx ls r m (arrK t) n
  | .anewarray k => oX (ares me.2.1 k) fun t => u1 st fun n r => newA O C nx ls r m t.1 n
  | .invokevirtual k => oX (mres me.2.1 k) fun q => gb (Nat.ble (catS (st.drop (q.2.1 + 1))) 8) (ua (st.drop q.2.1) fun b rest => gb (isK O m b q.2.2 && !(Nat.beq q.2.2 0)) (ivk K C q.1 nx ls (.ref b :: (st.take q.2.1).reverse) rest m))
  | .invokestatic k => oX (mres me.2.1 k) fun q => gb (Nat.ble (catS (st.drop q.2.1)) 8 && (Nat.ble q.2.1 st.length && Nat.beq q.2.2 0)) (ivk K C q.1 nx ls (st.take q.2.1).reverse (st.drop q.2.1) m)
  | .invokespecial k => bb (oini me.2.1 k) (ua st fun a r => gb (Nat.ble (catS r) 8 && Nat.ble 100 a) (C nx ls r m)) (oX (mres me.2.1 k) fun q => gb (Nat.ble (catS (st.drop (q.2.1 + 1))) 8) (ua (st.drop q.2.1) fun b rest => gb (isK O m b q.2.2 && (!(Nat.beq q.2.2 0) && q.1.2.2.2.2.2)) (ivk K C q.1 nx ls (.ref b :: (st.take q.2.1).reverse) rest m)))
  | .ireturn => ret1 me st m
  | .lreturn => match st with
    | [.long v] => match me.2.2.2.2.1 with
      | 6 => some (.long v, m)
      | _ => none
    | _ => none
  | .areturn => match st with
    | [.ref v] => match me.2.2.2.2.1 with
      | 7 => some (.ref v, m)
      | _ => none
    | _ => none
  | .return_ => match st with
    | [] => match me.2.2.2.2.1 with
      | 0 => some (.null, m)
      | _ => none
    | _ => none
  | _ => none
def stp (O : Ops μ) (K : MD → List Value → μ → Rs μ) (me : MD) (C : Nat → List Value → List Value → μ → Rs μ) (pc : Nat) (ls st : List Value) (m : μ) : Rs μ := match lkN me.2.2.1 pc with
  | some (i, l) => ins O K C me pc (pc + l) ls st m i
  | none => none
def run (O : Ops μ) (K : MD → List Value → μ → Rs μ) (me : MD) : Nat → Nat → List Value → List Value → μ → Rs μ
  | 0 => fun _ _ _ _ => none
  | n + 1 => stp O K me (run O K me n)
end Core
