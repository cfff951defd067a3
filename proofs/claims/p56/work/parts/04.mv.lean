/-! THE SMALL MACHINE: a cell is an object (class number, fields) or an array (element type, length, contents); a heap is a partial map of addresses, its size, the slots made so far; an answer is a value or an exception (its number, its address) with the heap behind it. -/
abbrev mv_C : Type := (Nat × List Value) ⊕ (FieldType × Nat × (Nat → Value))
abbrev mv_H : Type := (Nat → Option mv_C) × Nat × Nat
abbrev mv_R : Type := ((Option Value) ⊕ (Nat × Nat)) × mv_H
/-- what stands outside: cells that are only read, the addresses of text constants, statics -/
abbrev mv_X : Type := (Nat → Option mv_C) × (Nat → Nat) × (Nat → Value)
abbrev mv_I : Type := Instr × Nat × List (Int × Nat)
abbrev mv_L : Type := Nat × Nat × Nat × Nat × Nat
/-- a method: its locals, whether it has wide ones, its kind of answer, its code, its links, its handlers -/
abbrev mv_M : Type := Nat × Bool × Nat × List (List (Nat × mv_I)) × List (List (Nat × mv_L)) × List (Nat × Nat × Nat × Nat × Nat)
abbrev mv_K : Type := Nat → List Value → List Value → mv_H → Option mv_R
abbrev mv_G : Type := Nat → List Value → mv_H → Option mv_R
def nZ (z : Int) : Int32 := Int32.ofInt z
def mv_find {α : Type} : List (Nat × α) → Nat → Option α
  | [], _ => none
  | q :: r, n => bif Nat.beq q.1 n then some q.2 else mv_find r n
def mv_look {α : Type} (t : List (List (Nat × α))) (sh n : Nat) : Option α := match t[n / sh]? with
  | some l => mv_find l n
  | none => none
def mv_up {α : Type} (o : Nat → α) (a : Nat) (c : α) : Nat → α := fun q => if q = a then c else o q
-- the stack, the locals
def mv_popI (st : List Value) (f : Int32 → List Value → Option mv_R) : Option mv_R := match st with
  | .int x :: r => f x r
  | _ => none
def mv_popR (st : List Value) (f : Nat → List Value → Option mv_R) : Option mv_R := match st with
  | .ref x :: r => f x r
  | _ => none
def mv_popL (st : List Value) (f : Int64 → List Value → Option mv_R) : Option mv_R := match st with
  | .long x :: r => f x r
  | _ => none
def mv_popF (st : List Value) (f : UInt32 → List Value → Option mv_R) : Option mv_R := match st with
  | .float x :: r => f x r
  | _ => none
def mv_popD (st : List Value) (f : UInt64 → List Value → Option mv_R) : Option mv_R := match st with
  | .double x :: r => f x r
  | _ => none
def mv_pop1 (st : List Value) (f : Value → List Value → Option mv_R) : Option mv_R := match st with
  | v :: r => bif Nat.beq v.category 1 then f v r else none
  | _ => none
def mv_ld (ls : List Value) (i : Nat) (f : Value → Option mv_R) : Option mv_R := match ls[i]? with
  | some v => f v
  | none => none
def mv_int (v : Value) (f : Int32 → Option mv_R) : Option mv_R := match v with
  | .int x => f x
  | _ => none
def mv_ref (v : Value) (f : Nat → Option mv_R) : Option mv_R := match v with
  | .ref x => f x
  | _ => none
def mv_lng (v : Value) (f : Int64 → Option mv_R) : Option mv_R := match v with
  | .long x => f x
  | _ => none
def mv_flt (v : Value) (f : UInt32 → Option mv_R) : Option mv_R := match v with
  | .float x => f x
  | _ => none
def mv_dbl (v : Value) (f : UInt64 → Option mv_R) : Option mv_R := match v with
  | .double x => f x
  | _ => none
def mv_wid (v : Value) : Bool := match v with
  | .long _ => true
  | .double _ => true
  | _ => false
/-- a reference, or none -/
def mv_nr (v : Value) : Bool := match v with
  | .ref _ => true
  | .null => true
  | _ => false
def mv_chk (b : Bool) (f : Option mv_R) : Option mv_R := bif b then f else none
def mv_st (w : Bool) (ls : List Value) (i : Nat) (v : Value) (f : List Value → Option mv_R) : Option mv_R :=
  mv_chk (Nat.blt i ls.length) (mv_chk (bif w then !(mv_wid (ls.getD (i - 1) .null)) else true) (f (ls.set i v)))
def mv_st2 (w : Bool) (ls : List Value) (i : Nat) (v : Value) (f : List Value → Option mv_R) : Option mv_R :=
  mv_chk (Nat.blt (i + 1) ls.length) (mv_chk (w && !(mv_wid (ls.getD (i - 1) .null))) (f ((ls.set i v).set (i + 1) (.retAddr 0))))
-- the heap
def mv_cell (X : mv_X) (h : mv_H) (a : Nat) : Option mv_C := match h.1 a with
  | some c => some c
  | none => X.1 a
def mv_gf (X : mv_X) (h : mv_H) (a ci n : Nat) (f : Value → Option mv_R) : Option mv_R := match mv_cell X h a with
  | some (.inl (c, fs)) => if c = ci then (match fs[n]? with
    | some v => f v
    | none => none) else none
  | _ => none
def mv_gI (X : mv_X) (h : mv_H) (a ci n : Nat) (f : Int32 → Option mv_R) : Option mv_R := mv_gf X h a ci n fun v => mv_int v f
def mv_gR (X : mv_X) (h : mv_H) (a ci n : Nat) (f : Nat → Option mv_R) : Option mv_R := mv_gf X h a ci n fun v => mv_ref v f
def mv_ok (t : Nat) (x : Int32) : Bool := match t with
  | 1 => true
  | 6 => x == 0 || x == 1
  | 7 => decide (0 ≤ x) && decide (x ≤ 65535)
  | 8 => decide (-128 ≤ x) && decide (x ≤ 127)
  | _ => false
def mv_pf (h : mv_H) (a ci n : Nat) (v : Value) (f : mv_H → Option mv_R) : Option mv_R := match h.1 a with
  | some (.inl (c, fs)) => if c = ci then (if n < fs.length then f (mv_up h.1 a (some (.inl (ci, fs.set n v))), h.2) else none) else none
  | _ => none
/-- an array's kinds: 1 int, 2 references, 3 long, 5 double, 7 char, 8 byte -/
def mv_ak (k : Nat) (t : FieldType) : Bool := match k, t with
  | 1, .int => true
  | 2, .object _ => true
  | 3, .long => true
  | 5, .double => true
  | 7, .char => true
  | 8, .byte => true
  | _, _ => false
def mv_ar (X : mv_X) (h : mv_H) (k a : Nat) (i : Int32) (f : Value → Option mv_R) : Option mv_R := match mv_cell X h a with
  | some (.inr (t, n, g)) => mv_chk (mv_ak k t) (if 0 ≤ i.toInt ∧ i.toInt < n then f (g i.toInt.toNat) else none)
  | _ => none
def mv_aI (X : mv_X) (h : mv_H) (k a : Nat) (i : Int32) (f : Int32 → Option mv_R) : Option mv_R := mv_ar X h k a i fun v => mv_int v f
def mv_aR (X : mv_X) (h : mv_H) (a : Nat) (i : Int32) (f : Nat → Option mv_R) : Option mv_R := mv_ar X h 2 a i fun v => mv_ref v f
def mv_aL (X : mv_X) (h : mv_H) (a : Nat) (i : Int32) (f : Int64 → Option mv_R) : Option mv_R := mv_ar X h 3 a i fun v => mv_lng v f
def mv_aD (X : mv_X) (h : mv_H) (a : Nat) (i : Int32) (f : UInt64 → Option mv_R) : Option mv_R := mv_ar X h 5 a i fun v => mv_dbl v f
def mv_len (X : mv_X) (h : mv_H) (a : Nat) (f : Int32 → Option mv_R) : Option mv_R := match mv_cell X h a with
  | some (.inr (_, n, _)) => f (nZ n)
  | _ => none
def mv_as (h : mv_H) (k a : Nat) (i : Int32) (v : Value) (f : mv_H → Option mv_R) : Option mv_R := match h.1 a with
  | some (.inr (t, n, g)) => mv_chk (mv_ak k t) (if 0 ≤ i.toInt ∧ i.toInt < n then f (mv_up h.1 a (some (.inr (t, n, mv_up g i.toInt.toNat v))), h.2) else none)
  | _ => none
/-- an object into an array of its class -/
def mv_aa (h : mv_H) (a : Nat) (i : Int32) (b : Nat) (f : mv_H → Option mv_R) : Option mv_R := match h.1 b with
  | some (.inl (c, _)) => (match h.1 a with
    | some (.inr (.object C, n, g)) => mv_chk (mv_cn c == C) (if 0 ≤ i.toInt ∧ i.toInt < n then f (mv_up h.1 a (some (.inr (.object C, n, mv_up g i.toInt.toNat (.ref b)))), h.2) else none)
    | _ => none)
  | _ => none
def mv_new (h : mv_H) (c : mv_C) (sl : Nat) (f : Nat → mv_H → Option mv_R) : Option mv_R := f h.2.1 (mv_up h.1 h.2.1 (some c), h.2.1 + 1, h.2.2 + sl)
def mv_newa (h : mv_H) (t : FieldType) (v : Value) (n : Int32) (f : Nat → mv_H → Option mv_R) : Option mv_R :=
  if 0 ≤ n.toInt ∧ n.toInt ≤ 65536 then mv_new h (.inr (t, n.toInt.toNat, fun _ => v)) n.toInt.toNat f else none
def mv_cpf (f g : Nat → Value) (sp dp n : Nat) : Nat → Value := fun k => if dp ≤ k ∧ k < dp + n then f (sp + (k - dp)) else g k
def mv_prim (t : FieldType) : Bool := match t with
  | .int => true
  | .byte => true
  | _ => false
def mv_cpy (X : mv_X) (h : mv_H) (a0 : Nat) (sp : Int32) (a1 : Nat) (dp n : Int32) (f : mv_H → Option mv_R) : Option mv_R := match mv_cell X h a0, h.1 a1 with
  | some (.inr (t0, n0, g0)), some (.inr (t1, n1, g1)) => mv_chk (mv_prim t0) (if t0 = t1 then (if 0 ≤ sp.toInt ∧ 0 ≤ dp.toInt ∧ 0 ≤ n.toInt ∧ sp.toInt + n.toInt ≤ n0 ∧ dp.toInt + n.toInt ≤ n1 then
      mv_chk ((h.1 a0).isSome || (List.range n.toInt.toNat).all fun i => fits t0 (g0 (sp.toInt.toNat + i))) (f (mv_up h.1 a1 (some (.inr (t1, n1, mv_cpf g0 g1 sp.toInt.toNat dp.toInt.toNat n.toInt.toNat))), h.2)) else none) else none)
  | _, _ => none
-- calls
def mv_raise (e q : Nat) (h : mv_H) : Option mv_R := some (.inr (e, q), h)
/-- a handler: from, to, where it goes on behind its first store, the exception's number, that store's local (what is stored there is never read) -/
def mv_hs : List (Nat × Nat × Nat × Nat × Nat) → Nat → Nat → Option (Nat × Nat)
  | [], _, _ => none
  | x :: r, pc, e => bif Nat.ble x.1 pc && Nat.blt pc x.2.1 && Nat.beq x.2.2.2.1 e then some (x.2.2.1, x.2.2.2.2) else mv_hs r pc e
def mv_thr (hs : List (Nat × Nat × Nat × Nat × Nat)) (pc : Nat) (ls : List Value) (k : mv_K) : Nat → Nat → mv_H → Option mv_R := match hs with
  | [] => mv_raise
  | x :: r => fun e q h => match mv_hs (x :: r) pc e with
    | some t => k t.1 (ls.set t.2 (.retAddr 0)) [] h
    | none => mv_raise e q h
def mv_cl (call : mv_G) (y : Nat) (as : List Value) (h : mv_H) (g : Nat → Nat → mv_H → Option mv_R) (f : Option Value → mv_H → Option mv_R) : Option mv_R := match call y as h with
  | some (.inl v, h') => f v h'
  | some (.inr (e, q), h') => g e q h'
  | none => none
def mv_clV (call : mv_G) (y : Nat) (as : List Value) (h : mv_H) (g : Nat → Nat → mv_H → Option mv_R) (f : mv_H → Option mv_R) : Option mv_R := mv_cl call y as h g fun v h' => match v with
  | none => f h'
  | _ => none
def mv_clI (call : mv_G) (y : Nat) (as : List Value) (h : mv_H) (g : Nat → Nat → mv_H → Option mv_R) (f : Int32 → mv_H → Option mv_R) : Option mv_R := mv_cl call y as h g fun v h' => match v with
  | some (.int x) => f x h'
  | _ => none
def mv_clR (call : mv_G) (y : Nat) (as : List Value) (h : mv_H) (g : Nat → Nat → mv_H → Option mv_R) (f : Nat → mv_H → Option mv_R) : Option mv_R := mv_cl call y as h g fun v h' => match v with
  | some (.ref x) => f x h'
  | _ => none
def mv_clL (call : mv_G) (y : Nat) (as : List Value) (h : mv_H) (g : Nat → Nat → mv_H → Option mv_R) (f : Int64 → mv_H → Option mv_R) : Option mv_R := mv_cl call y as h g fun v h' => match v with
  | some (.long x) => f x h'
  | _ => none
def mv_clF (call : mv_G) (y : Nat) (as : List Value) (h : mv_H) (g : Nat → Nat → mv_H → Option mv_R) (f : UInt32 → mv_H → Option mv_R) : Option mv_R := mv_cl call y as h g fun v h' => match v with
  | some (.float x) => f x h'
  | _ => none
def mv_clD (call : mv_G) (y : Nat) (as : List Value) (h : mv_H) (g : Nat → Nat → mv_H → Option mv_R) (f : UInt64 → mv_H → Option mv_R) : Option mv_R := mv_cl call y as h g fun v h' => match v with
  | some (.double x) => f x h'
  | _ => none
def mv_cal (rk : Nat) (call : mv_G) (y : Nat) (as : List Value) (h : mv_H) (g : Nat → Nat → mv_H → Option mv_R) (f : List Value → mv_H → Option mv_R) : Option mv_R := match rk with
  | 0 => mv_clV call y as h g fun h' => f [] h'
  | 1 => mv_clI call y as h g fun x h' => f [.int x] h'
  | 2 => mv_clR call y as h g fun x h' => f [.ref x] h'
  | 3 => mv_clL call y as h g fun x h' => f [.long x] h'
  | 4 => mv_clF call y as h g fun x h' => f [.float x] h'
  | 5 => mv_clD call y as h g fun x h' => f [.double x] h'
  | _ => none
def mv_wd (st : List Value) : Nat := (st.map fun v => v.category).sum
def mv_args (st : List Value) (n : Nat) (f : List Value → List Value → Option mv_R) : Option mv_R :=
  mv_chk ((Nat.ble n st.length && (st.take n).all fun v => Nat.beq v.category 1) && Nat.ble (mv_wd (st.drop n)) 8) (f (st.take n).reverse (st.drop n))
def mv_fc (n : Fin 3) : UInt32 := match n with
  | 0 => FP.fconst0
  | 1 => FP.fconst1
  | _ => FP.fconst0
/-- a copy of a row of bytes -/
def mv_cln (h : mv_H) (a : Nat) (f : Nat → mv_H → Option mv_R) : Option mv_R := match h.1 a with
  | some (.inr (.byte, n, g)) => mv_new h (.inr (.byte, n, g)) n f
  | _ => none
def mv_isB (h : mv_H) (a : Nat) (f : Option mv_R) : Option mv_R := match h.1 a with
  | some (.inr (.byte, _, _)) => f
  | _ => none
def mv_rcv (X : mv_X) (h : mv_H) (as : List Value) (c : Nat) (f : Option mv_R) : Option mv_R := match as with
  | .ref a :: _ => (match mv_cell X h a with
    | some (.inl (c', _)) => if c' = c then f else none
    | _ => none)
  | _ => none
def mv_isr (as : List Value) (f : Option mv_R) : Option mv_R := match as with
  | .ref _ :: _ => f
  | _ => none
def mv_lk (M : mv_M) (i : Nat) (f : mv_L → Option mv_R) : Option mv_R := match mv_look M.2.2.2.2.1 16 i with
  | some q => f q
  | none => none
def mv_sw (x : Int32) (t : Nat) (f : Nat → Option mv_R) : List (Int × Nat) → Option mv_R
  | [] => f t
  | q :: r => if x = nZ q.1 then f q.2 else mv_sw x t f r
def mv_icmp (c : ClassFile.Cond) (x y : Int32) (A B : Option mv_R) : Option mv_R := match c with
  | .eq => if x = y then A else B
  | .ne => if x = y then B else A
  | .lt => if x < y then A else B
  | .ge => if y ≤ x then A else B
  | .gt => if y < x then A else B
  | .le => if x ≤ y then A else B
def mv_inv (X : mv_X) (call : mv_G) (M : mv_M) (k : mv_K) (pc : Nat) (ls st : List Value) (h : mv_H) (tag y n c rk : Nat) : Option mv_R := match tag with
  | 20 => mv_args st (n + 1) fun as rest => mv_rcv X h as c (mv_cal rk call y as h (mv_thr M.2.2.2.2.2 pc ls k) fun vs h' => k (pc + 3) ls (vs ++ rest) h')
  | 25 => mv_args st (n + 1) fun as rest => mv_rcv X h as c (mv_cal rk call y as h (mv_thr M.2.2.2.2.2 pc ls k) fun vs h' => k (pc + 3) ls (vs ++ rest) h')
  | 21 => mv_args st n fun as rest => mv_cal rk call y as h (mv_thr M.2.2.2.2.2 pc ls k) fun vs h' => k (pc + 3) ls (vs ++ rest) h'
  | 22 => mv_args st (n + 1) fun as rest => mv_isr as (mv_cal rk call y as h (mv_thr M.2.2.2.2.2 pc ls k) fun vs h' => k (pc + 3) ls (vs ++ rest) h')
  | 23 => mv_args st 1 fun as rest => match as with
    | [.ref _] => k (pc + 3) ls rest h
    | _ => none
  | 24 => mv_args st 5 fun as rest => match as with
    | [.ref a0, .int sp, .ref a1, .int dp, .int n] => mv_cpy X h a0 sp a1 dp n fun h' => k (pc + 3) ls rest h'
    | _ => none
  | 26 => mv_args st 1 fun as rest => match as with
    | [.ref a] => mv_cln h a fun b h' => k (pc + 3) ls (.ref b :: rest) h'
    | _ => none
  | _ => none
/-- one instruction -/
def mv_E (X : mv_X) (call : mv_G) (M : mv_M) (k : mv_K) (i : Instr) (t : Nat) (sw : List (Int × Nat)) (pc : Nat) (ls st : List Value) (h : mv_H) : Option mv_R :=
  match i with
  | .iload_n j => mv_ld ls j fun v => mv_int v fun x => k (pc + 1) ls (.int x :: st) h
  | .iload j => mv_ld ls j fun v => mv_int v fun x => k (pc + 2) ls (.int x :: st) h
  | .aload_n j => mv_ld ls j fun v => mv_ref v fun x => k (pc + 1) ls (.ref x :: st) h
  | .aload j => mv_ld ls j fun v => mv_ref v fun x => k (pc + 2) ls (.ref x :: st) h
  | .fload j => mv_ld ls j fun v => mv_flt v fun x => k (pc + 2) ls (.float x :: st) h
  | .dload j => mv_ld ls j fun v => mv_dbl v fun x => k (pc + 2) ls (.double x :: st) h
  | .lload_n j => mv_ld ls j fun v => mv_lng v fun x => k (pc + 1) ls (.long x :: st) h
  | .lload j => mv_ld ls j fun v => mv_lng v fun x => k (pc + 2) ls (.long x :: st) h
  | .lstore_n j => mv_popL st fun x st => mv_st2 M.2.1 ls j (.long x) fun ls => k (pc + 1) ls st h
  | .lstore j => mv_popL st fun x st => mv_st2 M.2.1 ls j (.long x) fun ls => k (pc + 2) ls st h
  | .ldc2_w j => mv_lk M j fun q => (match q.1 with
    | 16 => k (pc + 3) ls (.long (Int64.ofNat q.2.1) :: st) h
    | 17 => k (pc + 3) ls (.double (UInt64.ofNat q.2.1) :: st) h
    | _ => none)
  | .ladd => mv_popL st fun y st => mv_popL st fun x st => k (pc + 1) ls (.long (x + y) :: st) h
  | .lmul => mv_popL st fun y st => mv_popL st fun x st => k (pc + 1) ls (.long (x * y) :: st) h
  | .fmul => mv_popF st fun y st => mv_popF st fun x st => mv_chk (decide (FP.fmul x y &&& 0x7fffffff ≤ 0x7f800000)) (k (pc + 1) ls (.float (FP.fmul x y) :: st) h)
  | .f2l => mv_popF st fun x st => k (pc + 1) ls (.long (FP.f2l x) :: st) h
  | .aconst_null => k (pc + 1) ls (.null :: st) h
  | .ifnonnull _ => mv_popR st fun _ st => k t ls st h
  | .checkcast j => mv_popR st fun a st => mv_lk M j fun q => mv_chk (Nat.beq q.1 27) (mv_isB h a (k (pc + 3) ls (.ref a :: st) h))
  | .lreturn => mv_popL st fun x r => mv_chk (r.isEmpty && Nat.beq M.2.2.1 3) (some (.inl (some (.long x)), h))
  | .istore_n j => mv_popI st fun x st => mv_st M.2.1 ls j (.int x) fun ls => k (pc + 1) ls st h
  | .istore j => mv_popI st fun x st => mv_st M.2.1 ls j (.int x) fun ls => k (pc + 2) ls st h
  | .astore_n j => mv_popR st fun x st => mv_st M.2.1 ls j (.ref x) fun ls => k (pc + 1) ls st h
  | .astore j => mv_popR st fun x st => mv_st M.2.1 ls j (.ref x) fun ls => k (pc + 2) ls st h
  | .fstore j => mv_popF st fun x st => mv_st M.2.1 ls j (.float x) fun ls => k (pc + 2) ls st h
  | .dstore j => mv_popD st fun x st => mv_st2 M.2.1 ls j (.double x) fun ls => k (pc + 2) ls st h
  | .iinc j n => mv_ld ls j fun v => mv_int v fun x => mv_st M.2.1 ls j (.int (x + nZ n)) fun ls => k (pc + 3) ls st h
  | .iconst n => k (pc + 1) ls (.int (nZ n) :: st) h
  | .bipush n => k (pc + 2) ls (.int (nZ n) :: st) h
  | .sipush n => k (pc + 3) ls (.int (nZ n) :: st) h
  | .lconst n => k (pc + 1) ls (.long (Int64.ofNat n) :: st) h
  | .fconst n => k (pc + 1) ls (.float (mv_fc n) :: st) h
  | .dconst _ => k (pc + 1) ls (.double FP.dconst0 :: st) h
  | .ldc j => (match sw with
    | q :: _ => k (pc + 2) ls (.int (nZ q.1) :: st) h
    | [] => mv_lk M j fun q => (match q.1 with
      | 14 => k (pc + 2) ls (.ref (X.2.1 q.2.1) :: st) h
      | 18 => k (pc + 2) ls (.float (UInt32.ofNat q.2.1) :: st) h
      | _ => none))
  | .ldc_w j => (match sw with
    | q :: _ => k (pc + 3) ls (.int (nZ q.1) :: st) h
    | [] => mv_lk M j fun q => (match q.1 with
      | 14 => k (pc + 3) ls (.ref (X.2.1 q.2.1) :: st) h
      | 18 => k (pc + 3) ls (.float (UInt32.ofNat q.2.1) :: st) h
      | _ => none))
  | .iadd => mv_popI st fun y st => mv_popI st fun x st => k (pc + 1) ls (.int (x + y) :: st) h
  | .isub => mv_popI st fun y st => mv_popI st fun x st => k (pc + 1) ls (.int (x - y) :: st) h
  | .imul => mv_popI st fun y st => mv_popI st fun x st => k (pc + 1) ls (.int (x * y) :: st) h
  | .idiv => mv_popI st fun y st => mv_popI st fun x st => if y = 0 then none else k (pc + 1) ls (.int (x / y) :: st) h
  | .irem => mv_popI st fun y st => mv_popI st fun x st => if y = 0 then none else k (pc + 1) ls (.int (x - x / y * y) :: st) h
  | .iand => mv_popI st fun y st => mv_popI st fun x st => k (pc + 1) ls (.int (x &&& y) :: st) h
  | .ior => mv_popI st fun y st => mv_popI st fun x st => k (pc + 1) ls (.int (x ||| y) :: st) h
  | .ixor => mv_popI st fun y st => mv_popI st fun x st => k (pc + 1) ls (.int (x ^^^ y) :: st) h
  | .ishl => mv_popI st fun y st => mv_popI st fun x st => k (pc + 1) ls (.int (x <<< (y &&& 31)) :: st) h
  | .ishr => mv_popI st fun y st => mv_popI st fun x st => k (pc + 1) ls (.int (x >>> (y &&& 31)) :: st) h
  | .iushr => mv_popI st fun y st => mv_popI st fun x st => k (pc + 1) ls (.int (x.toUInt32 >>> (y.toUInt32 &&& Int32.toUInt32 31)).toInt32 :: st) h
  | .ineg => mv_popI st fun x st => k (pc + 1) ls (.int (-x) :: st) h
  | .i2l => mv_popI st fun x st => k (pc + 1) ls (.long x.toInt64 :: st) h
  | .i2b => mv_popI st fun x st => k (pc + 1) ls (.int x.toInt8.toInt32 :: st) h
  | .i2c => mv_popI st fun x st => k (pc + 1) ls (.int (x.toUInt32 % 65536).toInt32 :: st) h
  | .i2d => mv_popI st fun x st => k (pc + 1) ls (.double (FP.i2d x) :: st) h
  | .i2f => mv_popI st fun x st => k (pc + 1) ls (.float (FP.i2f x) :: st) h
  | .f2d => mv_popF st fun x st => mv_chk (decide (FP.f2d x &&& 0x7fffffffffffffff ≤ 0x7ff0000000000000)) (k (pc + 1) ls (.double (FP.f2d x) :: st) h)
  | .ddiv => mv_popD st fun y st => mv_popD st fun x st => mv_chk (decide (FP.ddiv x y &&& 0x7fffffffffffffff ≤ 0x7ff0000000000000)) (k (pc + 1) ls (.double (FP.ddiv x y) :: st) h)
  | .fdiv => mv_popF st fun y st => mv_popF st fun x st => mv_chk (decide (FP.fdiv x y &&& 0x7fffffff ≤ 0x7f800000)) (k (pc + 1) ls (.float (FP.fdiv x y) :: st) h)
  | .lcmp => mv_popL st fun y st => mv_popL st fun x st => k (pc + 1) ls (.int (lg_cmp x y) :: st) h
  | .dcmp op => mv_popD st fun y st => mv_popD st fun x st => k (pc + 1) ls (.int (Op.cmpValue (FP.dcmp x y) op) :: st) h
  | .fcmp op => mv_popF st fun y st => mv_popF st fun x st => k (pc + 1) ls (.int (Op.cmpValue (FP.fcmp x y) op) :: st) h
  | .dup => mv_pop1 st fun v st => k (pc + 1) ls (v :: v :: st) h
  | .pop => mv_pop1 st fun _ st => k (pc + 1) ls st h
  | .dup_x1 => mv_pop1 st fun v st => mv_pop1 st fun w st => k (pc + 1) ls (v :: w :: v :: st) h
  | .dup2 => mv_pop1 st fun v st => mv_pop1 st fun w st => k (pc + 1) ls (v :: w :: v :: w :: st) h
  | .goto _ => k t ls st h
  | .ifCond c _ => mv_popI st fun x st => mv_icmp c x 0 (k t ls st h) (k (pc + 3) ls st h)
  | .if_icmp c _ => mv_popI st fun y st => mv_popI st fun x st => mv_icmp c x y (k t ls st h) (k (pc + 3) ls st h)
  | .tableswitch _ _ _ _ => mv_popI st fun x st => mv_sw x t (fun t => k t ls st h) sw
  | .lookupswitch _ _ => mv_popI st fun x st => mv_sw x t (fun t => k t ls st h) sw
  | .getfield j => mv_popR st fun a st => mv_lk M j fun q => mv_chk (Nat.beq q.1 1) (match q.2.2.2.1 with
    | 2 => mv_gR X h a q.2.1 q.2.2.1 fun x => k (pc + 3) ls (.ref x :: st) h
    | _ => mv_gI X h a q.2.1 q.2.2.1 fun x => k (pc + 3) ls (.int x :: st) h)
  | .putfield j => mv_lk M j fun q => mv_chk (Nat.beq q.1 1) (match q.2.2.2.1 with
    | 2 => mv_popR st fun x st => mv_popR st fun a st => mv_pf h a q.2.1 q.2.2.1 (.ref x) fun h => k (pc + 3) ls st h
    | t => mv_popI st fun x st => mv_popR st fun a st => mv_chk (mv_ok t x) (mv_pf h a q.2.1 q.2.2.1 (.int x) fun h => k (pc + 3) ls st h))
  | .getstatic j => mv_lk M j fun q => mv_chk (Nat.beq q.1 13) (match q.2.2.1 with
    | 2 => mv_ref (X.2.2 q.2.1) fun x => k (pc + 3) ls (.ref x :: st) h
    | 9 => mv_chk (mv_nr (X.2.2 q.2.1)) (k (pc + 3) ls (X.2.2 q.2.1 :: st) h)
    | _ => mv_int (X.2.2 q.2.1) fun x => k (pc + 3) ls (.int x :: st) h)
  | .iaload => mv_popI st fun i st => mv_popR st fun a st => mv_aI X h 1 a i fun x => k (pc + 1) ls (.int x :: st) h
  | .caload => mv_popI st fun i st => mv_popR st fun a st => mv_aI X h 7 a i fun x => k (pc + 1) ls (.int x :: st) h
  | .baload => mv_popI st fun i st => mv_popR st fun a st => mv_aI X h 8 a i fun x => k (pc + 1) ls (.int x :: st) h
  | .aaload => mv_popI st fun i st => mv_popR st fun a st => mv_aR X h a i fun x => k (pc + 1) ls (.ref x :: st) h
  | .laload => mv_popI st fun i st => mv_popR st fun a st => mv_aL X h a i fun x => k (pc + 1) ls (.long x :: st) h
  | .daload => mv_popI st fun i st => mv_popR st fun a st => mv_aD X h a i fun x => k (pc + 1) ls (.double x :: st) h
  | .iastore => mv_popI st fun x st => mv_popI st fun i st => mv_popR st fun a st => mv_as h 1 a i (.int x) fun h => k (pc + 1) ls st h
  | .castore => mv_popI st fun x st => mv_popI st fun i st => mv_popR st fun a st => mv_as h 7 a i (.int (vp_nar .char x)) fun h => k (pc + 1) ls st h
  | .bastore => mv_popI st fun x st => mv_popI st fun i st => mv_popR st fun a st => mv_as h 8 a i (.int x.toInt8.toInt32) fun h => k (pc + 1) ls st h
  | .lastore => mv_popL st fun x st => mv_popI st fun i st => mv_popR st fun a st => mv_as h 3 a i (.long x) fun h => k (pc + 1) ls st h
  | .dastore => mv_popD st fun x st => mv_popI st fun i st => mv_popR st fun a st => mv_as h 5 a i (.double x) fun h => k (pc + 1) ls st h
  | .aastore => mv_popR st fun b st => mv_popI st fun i st => mv_popR st fun a st => mv_aa h a i b fun h => k (pc + 1) ls st h
  | .arraylength => mv_popR st fun a st => mv_len X h a fun x => k (pc + 1) ls (.int x :: st) h
  | .new j => mv_lk M j fun q => (match q.1 with
    | 10 => mv_new h (.inl (q.2.1, mv_df q.2.1)) (mv_df q.2.1).length fun a h => k (pc + 3) ls (.ref a :: st) h
    | 11 => mv_chk (Nat.blt 0 t && Nat.ble st.length 8 && (st.all fun v => Nat.beq v.category 1) && M.2.2.2.2.2.isEmpty) (mv_raise q.2.1 h.2.1 (h.1, h.2.1 + 1, h.2.2 + 6))
    | _ => none)
  | .newarray ty => mv_popI st fun n st => mv_newa h (newarray.typeOf ty) (defaultValue (newarray.typeOf ty)) n fun a h => k (pc + 2) ls (.ref a :: st) h
  | .anewarray j => mv_popI st fun n st => mv_lk M j fun q => mv_chk (Nat.beq q.1 10) (mv_newa h (.object (mv_cn q.2.1)) .null n fun a h => k (pc + 3) ls (.ref a :: st) h)
  | .invokevirtual j => mv_lk M j fun q => mv_inv X call M k pc ls st h q.1 q.2.1 q.2.2.1 q.2.2.2.1 q.2.2.2.2
  | .invokespecial j => mv_lk M j fun q => mv_inv X call M k pc ls st h q.1 q.2.1 q.2.2.1 q.2.2.2.1 q.2.2.2.2
  | .invokestatic j => mv_lk M j fun q => mv_inv X call M k pc ls st h q.1 q.2.1 q.2.2.1 q.2.2.2.1 q.2.2.2.2
  | .ireturn => mv_popI st fun x r => mv_chk (r.isEmpty && mv_ok M.2.2.1 x) (some (.inl (some (.int x)), h))
  | .areturn => mv_popR st fun x r => mv_chk (r.isEmpty && Nat.beq M.2.2.1 2) (some (.inl (some (.ref x)), h))
  | .freturn => mv_popF st fun x r => mv_chk (r.isEmpty && Nat.beq M.2.2.1 4) (some (.inl (some (.float x)), h))
  | .dreturn => mv_popD st fun x r => mv_chk (r.isEmpty && Nat.beq M.2.2.1 5) (some (.inl (some (.double x)), h))
  | .return_ => mv_chk (st.isEmpty && Nat.beq M.2.2.1 0) (some (.inl none, h))
  | _ => none
/-- one step -/
def mv_F (X : mv_X) (call : mv_G) (M : mv_M) (k : mv_K) (pc : Nat) (ls st : List Value) (h : mv_H) : Option mv_R :=
  match mv_look M.2.2.2.1 32 pc with
  | none => none
  | some q => mv_E X call M k q.1 q.2.1 q.2.2 pc ls st h
