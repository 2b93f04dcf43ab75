/-! THE ABSTRACT MACHINE: values, memory by cell number and place, one step of the bytecode in continuation form, runs, calls by depth. Nothing of the class stands here but the shapes bw_kd, bw_len, bw_cls, bw_rf, bw_ft. -/
abbrev bwV : Type := Int32 ⊕ (Int64 ⊕ Nat)
abbrev bwM : Type := (Nat → Nat → Int32) × (Nat → Nat → Int64)
abbrev bwR : Type := Option bwV × bwM
/-- an instruction's row: pc, instruction, length, an int constant, two numbers, the slots that are forgotten on arrival, a switch's targets -/
abbrev bwE : Type := Nat × Instr × Nat × Int32 × Nat × Nat × List Nat × List (Int32 × Nat)
def bw_si (μ : bwM) (o j : Nat) (x : Int32) : bwM := (fun o' j' => if o' = o ∧ j' = j then x else μ.1 o' j', μ.2)
def bw_sl (μ : bwM) (o j : Nat) (x : Int64) : bwM := (μ.1, fun o' j' => if o' = o ∧ j' = j then x else μ.2 o' j')
def bw_cp (μ : bwM) (o1 o2 sp dp n : Nat) : bwM := (fun o' j' => if o' = o2 ∧ (dp ≤ j' ∧ j' < dp + n) then μ.1 o1 (sp + (j' - dp)) else μ.1 o' j', μ.2)
abbrev bw_in (i : Int32) (n : Nat) : Prop := 0 ≤ i ∧ i.toNatClampNeg < n
def bw_gI {β : Type} (v : bwV) (f : β) (k : Int32 → β) : β := match v with
  | .inl x => k x
  | _ => f
def bw_gL {β : Type} (v : bwV) (f : β) (k : Int64 → β) : β := match v with
  | .inr (.inl x) => k x
  | _ => f
def bw_gR {β : Type} (v : bwV) (f : β) (k : Nat → β) : β := match v with
  | .inr (.inr x) => k x
  | _ => f
def bw_pp {β : Type} (st : List bwV) (f : β) (k : bwV → List bwV → β) : β := match st with
  | v :: r => k v r
  | [] => f
def bw_lk {β : Type} (o : Option (Option bwV)) (f : β) (k : bwV → β) : β := match o with
  | some (some v) => k v
  | _ => f
def bw_nl {β : Type} (st : List bwV) (f : β) (k : β) : β := match st with
  | [] => k
  | _ => f
def bw_bI {β : Type} (r : Option bwR) (f : β) (k : Int32 → bwM → β) : β := match r with
  | some (some (.inl x), μ) => k x μ
  | _ => f
def bw_bL {β : Type} (r : Option bwR) (f : β) (k : Int64 → bwM → β) : β := match r with
  | some (some (.inr (.inl x)), μ) => k x μ
  | _ => f
def bw_bV {β : Type} (r : Option bwR) (f : β) (k : bwM → β) : β := match r with
  | some (none, μ) => k μ
  | _ => f
def bw_sw {β : Type} (x : Int32) (l : List (Int32 × Nat)) (d : β) (k : Nat → β) : β := match l with
  | [] => d
  | q :: r => if x = q.1 then k q.2 else bw_sw x r d k
/-- n arguments off the stack, the first one first -/
def bw_ar {β : Type} (n : Nat) (st acc : List bwV) (f : β) (k : List bwV → List bwV → β) : β := match n with
  | 0 => k acc st
  | n + 1 => match st with
    | v :: r => bw_ar n r (v :: acc) f k
    | [] => f
def bw_rc {β : Type} (as : List bwV) (c : Nat) (cls : Nat → Nat) (f k : β) : β := match as with
  | .inr (.inr o) :: _ => bif Nat.beq (cls o) c then k else f
  | _ => f
def bw_isL (v : bwV) : Bool := match v with
  | .inr (.inl _) => true
  | _ => false
def bw_wd (st : List bwV) : Nat := match st with
  | [] => 0
  | v :: r => (match v with
    | .inr (.inl _) => 2
    | _ => 1) + bw_wd r
def bw_set (ls : List (Option bwV)) (i : Nat) (v : Option bwV) : List (Option bwV) := match ls, i with
  | [], _ => []
  | _ :: r, 0 => v :: r
  | a :: r, i + 1 => a :: bw_set r i v
def bw_get (ls : List (Option bwV)) (i : Nat) : Option (Option bwV) := match ls, i with
  | [], _ => none
  | a :: _, 0 => some a
  | _ :: r, i + 1 => bw_get r i
def bw_forget (ks : List Nat) (ls : List (Option bwV)) : List (Option bwV) := match ks with
  | [] => ls
  | k :: r => bw_forget r (bw_set ls k none)
/-- a long that begins one slot ahead goes -/
def bw_clr (ls : List (Option bwV)) (i : Nat) : List (Option bwV) := match i with
  | 0 => ls
  | j + 1 => match bw_get ls j with
    | some (some (.inr (.inl _))) => bw_set ls j none
    | _ => ls
def bw_put (ls : List (Option bwV)) (i : Nat) (v : bwV) : List (Option bwV) := bw_set (bw_clr ls i) i (some v)
def bw_putL (ls : List (Option bwV)) (i : Nat) (v : Int64) : List (Option bwV) := bw_set (bw_set (bw_clr ls i) i (some (.inr (.inl v)))) (i + 1) none
def bw_loc (args : List bwV) (n : Nat) : List (Option bwV) := match n with
  | 0 => []
  | n + 1 => match args with
    | [] => none :: bw_loc [] n
    | .inr (.inl y) :: r => match n with
      | 0 => [some (.inr (.inl y))]
      | n + 1 => some (.inr (.inl y)) :: none :: bw_loc r n
    | v :: r => some v :: bw_loc r n
-- the shapes: 0 .. 29 the class's cells, 30 .. 52 the reference's, 60 the script
def bw_kd (o : Nat) : Nat := match o with
  | 0 => 0 | 2 => 0 | 12 => 0 | 22 => 0 | 24 => 0 | 30 => 0
  | 27 => 2 | 28 => 2 | 43 => 2
  | 40 => 3 | 47 => 3
  | _ => 1
def bw_cls (o : Nat) : Nat := match o with
  | 0 => 3 | 2 => 2 | 12 => 2 | 22 => 0 | 24 => 1 | 30 => 4
  | _ => 9
def bw_len (o : Nat) : Nat := match o with
  | 6 => 36 | 7 => 3072 | 10 => 48 | 11 => 288
  | 16 => 36 | 17 => 3072 | 20 => 48 | 21 => 288
  | 23 => 500 | 27 => 48 | 28 => 10 | 29 => 10
  | 34 => 36 | 35 => 3072 | 38 => 48 | 39 => 288
  | 43 => 10 | 44 => 120 | 45 => 13 | 46 => 13
  | 48 => 100 | 49 => 100 | 50 => 100 | 51 => 100 | 52 => 30000
  | _ => 12
def bw_rf (o a : Nat) : Nat := match o, a with
  | 0, 0 => 2 | 0, 1 => 22 | 0, 2 => 24 | 0, 3 => 1
  | 2, a => a + 1
  | 12, a => a + 11
  | 22, 0 => 12 | 22, 1 => 23
  | 24, a => a + 25
  | 30, 2 => 31 | 30, 3 => 32 | 30, 4 => 33 | 30, 5 => 34 | 30, 6 => 35 | 30, 7 => 36 | 30, 8 => 37 | 30, 9 => 38
  | 30, 11 => 39 | 30, 12 => 40 | 30, 13 => 41 | 30, 17 => 42 | 30, 19 => 43 | 30, 20 => 44
  | 30, 21 => 45 | 30, 22 => 46 | 30, 23 => 47 | 30, 26 => 48 | 30, 27 => 49 | 30, 28 => 50 | 30, 29 => 51 | 30, 30 => 52
  | _, _ => 0
/-- a class's field: 0 int, 1 long, 2 a reference -/
def bw_ft (c a : Nat) : Nat := match c, a with
  | 0, 2 => 0 | 0, 3 => 0
  | 1, 5 => 0 | 1, 6 => 0 | 1, 7 => 0 | 1, 8 => 0 | 1, 9 => 0 | 1, 10 => 1
  | 2, 0 => 0 | 2, 1 => 0
  | 3, 4 => 0 | 3, 5 => 1 | 3, 6 => 1
  | 4, 0 => 0 | 4, 1 => 0 | 4, 10 => 0 | 4, 14 => 1 | 4, 15 => 1 | 4, 16 => 1 | 4, 18 => 0 | 4, 24 => 0 | 4, 25 => 0
  | _, _ => 2
def bw_nf (c : Nat) : Nat := match c with
  | 0 => 4 | 1 => 11 | 2 => 11 | 3 => 7 | 4 => 31
  | _ => 0
def bw_i2 {β : Type} (st : List bwV) (f : β) (k : Int32 → Int32 → List bwV → β) : β := bw_pp st f fun v1 r1 => bw_pp r1 f fun v2 r2 => bw_gI v1 f fun y => bw_gI v2 f fun x => k x y r2
def bw_l2 {β : Type} (st : List bwV) (f : β) (k : Int64 → Int64 → List bwV → β) : β := bw_pp st f fun v1 r1 => bw_pp r1 f fun v2 r2 => bw_gL v1 f fun y => bw_gL v2 f fun x => k x y r2
def bw_i1 {β : Type} (st : List bwV) (f : β) (k : Int32 → List bwV → β) : β := bw_pp st f fun v1 r1 => bw_gI v1 f fun x => k x r1
def bw_l1 {β : Type} (st : List bwV) (f : β) (k : Int64 → List bwV → β) : β := bw_pp st f fun v1 r1 => bw_gL v1 f fun x => k x r1
def bw_r1 {β : Type} (st : List bwV) (f : β) (k : Nat → List bwV → β) : β := bw_pp st f fun v1 r1 => bw_gR v1 f fun x => k x r1
/-- one step: 'call' what a callee gives; sl, sx the script (its length and one, or 0: none); rt what the method returns (0 nothing, 1 int, 2 long, 3 boolean); ret, f, k: what comes behind a return, a fault, a step -/
def bw_step {β : Type} (call : Nat → List bwV → bwM → Option bwR) (sl : Nat) (sx : Nat → Int32) (rt : Nat) (ins : Instr) (len : Nat) (v : Int32) (a b : Nat) (sw : List (Int32 × Nat)) (pc : Nat) (ls : List (Option bwV)) (st : List bwV) (μ : bwM) (ret : bwR → β) (f : β) (k : Nat → List (Option bwV) → List bwV → bwM → β) : β :=
  match ins with
  | .iconst _ => k (pc + len) ls (.inl v :: st) μ
  | .bipush _ => k (pc + len) ls (.inl v :: st) μ
  | .sipush _ => k (pc + len) ls (.inl v :: st) μ
  | .lconst _ => k (pc + len) ls (.inr (.inl (Int64.ofNat a)) :: st) μ
  | .ldc2_w _ => k (pc + len) ls (.inr (.inl (Int64.ofNat a)) :: st) μ
  | .iload_n _ => bw_lk (bw_get ls a) f fun x => bw_gI x f fun x => k (pc + len) ls (.inl x :: st) μ
  | .iload _ => bw_lk (bw_get ls a) f fun x => bw_gI x f fun x => k (pc + len) ls (.inl x :: st) μ
  | .lload_n _ => bw_lk (bw_get ls a) f fun x => bw_gL x f fun x => k (pc + len) ls (.inr (.inl x) :: st) μ
  | .lload _ => bw_lk (bw_get ls a) f fun x => bw_gL x f fun x => k (pc + len) ls (.inr (.inl x) :: st) μ
  | .aload_n _ => bw_lk (bw_get ls a) f fun x => bw_gR x f fun x => k (pc + len) ls (.inr (.inr x) :: st) μ
  | .aload _ => bw_lk (bw_get ls a) f fun x => bw_gR x f fun x => k (pc + len) ls (.inr (.inr x) :: st) μ
  | .istore_n _ => bw_i1 st f fun x r => k (pc + len) (bw_put ls a (.inl x)) r μ
  | .istore _ => bw_i1 st f fun x r => k (pc + len) (bw_put ls a (.inl x)) r μ
  | .lstore_n _ => bw_l1 st f fun x r => k (pc + len) (bw_putL ls a x) r μ
  | .lstore _ => bw_l1 st f fun x r => k (pc + len) (bw_putL ls a x) r μ
  | .iinc _ _ => bw_lk (bw_get ls a) f fun x => bw_gI x f fun x => k (pc + len) (bw_put ls a (.inl (x + v))) st μ
  | .iadd => bw_i2 st f fun x y r => k (pc + len) ls (.inl (x + y) :: r) μ
  | .isub => bw_i2 st f fun x y r => k (pc + len) ls (.inl (x - y) :: r) μ
  | .imul => bw_i2 st f fun x y r => k (pc + len) ls (.inl (x * y) :: r) μ
  | .irem => bw_i2 st f fun x y r => if y = 0 then f else k (pc + len) ls (.inl (x - x / y * y) :: r) μ
  | .ior => bw_i2 st f fun x y r => k (pc + len) ls (.inl (x ||| y) :: r) μ
  | .iand => bw_i2 st f fun x y r => k (pc + len) ls (.inl (x &&& y) :: r) μ
  | .ixor => bw_i2 st f fun x y r => k (pc + len) ls (.inl (x ^^^ y) :: r) μ
  | .ishl => bw_i2 st f fun x y r => k (pc + len) ls (.inl (x <<< (y &&& 31)) :: r) μ
  | .ishr => bw_i2 st f fun x y r => k (pc + len) ls (.inl (x >>> (y &&& 31)) :: r) μ
  | .ladd => bw_l2 st f fun x y r => k (pc + len) ls (.inr (.inl (x + y)) :: r) μ
  | .lsub => bw_l2 st f fun x y r => k (pc + len) ls (.inr (.inl (x - y)) :: r) μ
  | .lmul => bw_l2 st f fun x y r => k (pc + len) ls (.inr (.inl (x * y)) :: r) μ
  | .ldiv => bw_l2 st f fun x y r => if y = 0 then f else k (pc + len) ls (.inr (.inl (x / y)) :: r) μ
  | .lrem => bw_l2 st f fun x y r => if y = 0 then f else k (pc + len) ls (.inr (.inl (x - x / y * y)) :: r) μ
  | .lneg => bw_l1 st f fun x r => k (pc + len) ls (.inr (.inl (-x)) :: r) μ
  | .i2l => bw_i1 st f fun x r => k (pc + len) ls (.inr (.inl x.toInt64) :: r) μ
  | .lcmp => bw_l2 st f fun x y r => k (pc + len) ls (.inl (lg_cmp x y) :: r) μ
  | .dup => bw_pp st f fun x r => bif bw_isL x then f else k (pc + len) ls (x :: x :: r) μ
  | .dup2 => bw_pp st f fun x r => bw_pp r f fun y r => bif bw_isL x || bw_isL y then f else k (pc + len) ls (x :: y :: x :: y :: r) μ
  | .goto _ => k a ls st μ
  | .ifCond c _ => match c with
    | .eq => bw_i1 st f fun x r => if x = 0 then k a ls r μ else k (pc + len) ls r μ
    | .ne => bw_i1 st f fun x r => if x = 0 then k (pc + len) ls r μ else k a ls r μ
    | .lt => bw_i1 st f fun x r => if x < 0 then k a ls r μ else k (pc + len) ls r μ
    | .ge => bw_i1 st f fun x r => if 0 ≤ x then k a ls r μ else k (pc + len) ls r μ
    | .gt => bw_i1 st f fun x r => if 0 < x then k a ls r μ else k (pc + len) ls r μ
    | .le => bw_i1 st f fun x r => if x ≤ 0 then k a ls r μ else k (pc + len) ls r μ
  | .if_icmp c _ => match c with
    | .eq => bw_i2 st f fun x y r => if x = y then k a ls r μ else k (pc + len) ls r μ
    | .ne => bw_i2 st f fun x y r => if x = y then k (pc + len) ls r μ else k a ls r μ
    | .lt => bw_i2 st f fun x y r => if x < y then k a ls r μ else k (pc + len) ls r μ
    | .ge => bw_i2 st f fun x y r => if y ≤ x then k a ls r μ else k (pc + len) ls r μ
    | .gt => bw_i2 st f fun x y r => if y < x then k a ls r μ else k (pc + len) ls r μ
    | .le => bw_i2 st f fun x y r => if x ≤ y then k a ls r μ else k (pc + len) ls r μ
  | .tableswitch _ _ _ _ => bw_i1 st f fun x r => bw_sw x sw (k a ls r μ) fun t => k t ls r μ
  | .getfield _ => bw_r1 st f fun o r => bif Nat.beq (bw_cls o) b then (match bw_ft b a with
      | 0 => k (pc + len) ls (.inl (μ.1 o a) :: r) μ
      | 1 => k (pc + len) ls (.inr (.inl (μ.2 o a)) :: r) μ
      | _ => k (pc + len) ls (.inr (.inr (bw_rf o a)) :: r) μ) else f
  | .putfield _ => bw_pp st f fun x r => bw_r1 r f fun o r => bif Nat.beq (bw_cls o) b then (match bw_ft b a with
      | 0 => bw_gI x f fun x => k (pc + len) ls r (bw_si μ o a x)
      | 1 => bw_gL x f fun x => k (pc + len) ls r (bw_sl μ o a x)
      | _ => f) else f
  | .iaload => bw_i1 st f fun i r => bw_r1 r f fun o r => bif Nat.beq o 60 then (if bw_in i (sl - 1) then k (pc + len) ls (.inl (sx i.toNatClampNeg) :: r) μ else f) else bif Nat.blt o 53 && Nat.beq (bw_kd o) 1 then (if bw_in i (bw_len o) then k (pc + len) ls (.inl (μ.1 o i.toNatClampNeg) :: r) μ else f) else f
  | .laload => bw_i1 st f fun i r => bw_r1 r f fun o r => bif Nat.blt o 53 && Nat.beq (bw_kd o) 2 then (if bw_in i (bw_len o) then k (pc + len) ls (.inr (.inl (μ.2 o i.toNatClampNeg)) :: r) μ else f) else f
  | .baload => bw_i1 st f fun i r => bw_r1 r f fun o r => bif Nat.blt o 53 && Nat.beq (bw_kd o) 3 then (if bw_in i (bw_len o) then k (pc + len) ls (.inl (μ.1 o i.toNatClampNeg) :: r) μ else f) else f
  | .iastore => bw_i1 st f fun x r => bw_i1 r f fun i r => bw_r1 r f fun o r => bif Nat.blt o 53 && Nat.beq (bw_kd o) 1 then (if bw_in i (bw_len o) then k (pc + len) ls r (bw_si μ o i.toNatClampNeg x) else f) else f
  | .lastore => bw_l1 st f fun x r => bw_i1 r f fun i r => bw_r1 r f fun o r => bif Nat.blt o 53 && Nat.beq (bw_kd o) 2 then (if bw_in i (bw_len o) then k (pc + len) ls r (bw_sl μ o i.toNatClampNeg x) else f) else f
  | .bastore => bw_i1 st f fun x r => bw_i1 r f fun i r => bw_r1 r f fun o r => bif Nat.blt o 53 && Nat.beq (bw_kd o) 3 then (if bw_in i (bw_len o) then k (pc + len) ls r (bw_si μ o i.toNatClampNeg (vp_nar .boolean x)) else f) else f
  | .arraylength => bw_r1 st f fun o r => bif Nat.beq o 60 then (bif Nat.beq sl 0 then f else k (pc + len) ls (.inl (Int32.ofNat (sl - 1)) :: r) μ) else bif Nat.blt o 53 && Nat.beq (bw_kd o) 1 then k (pc + len) ls (.inl (Int32.ofNat (bw_len o)) :: r) μ else f
  | .invokevirtual _ => bw_ar (b / 10 % 100) st [] f fun as r => bw_rc as (b / 1000) bw_cls f (bif Nat.ble (bw_wd r) 8 then (match b % 10 with
      | 0 => bw_bV (call a as μ) f fun μ => k (pc + len) ls r μ
      | 2 => bw_bL (call a as μ) f fun x μ => k (pc + len) ls (.inr (.inl x) :: r) μ
      | _ => bw_bI (call a as μ) f fun x μ => k (pc + len) ls (.inl x :: r) μ) else f)
  | .invokestatic _ => bif Nat.beq b 998 then (bw_i2 st f fun x y r => bif Nat.ble (bw_wd r) 8 then k (pc + len) ls (.inl (if y < x then y else x) :: r) μ else f) else bif Nat.beq b 997 then (bw_l1 st f fun x r => bif Nat.ble (bw_wd r) 8 then k (pc + len) ls (.inr (.inl (if 0 < x then x else -x)) :: r) μ else f) else bif Nat.beq b 999 then (bw_i1 st f fun n r => bw_i1 r f fun dp r => bw_r1 r f fun o2 r => bw_i1 r f fun sp r => bw_r1 r f fun o1 r => bw_nl r f (bif (Nat.blt o1 53 && Nat.beq (bw_kd o1) 1) && (Nat.blt o2 53 && Nat.beq (bw_kd o2) 1) then (if (0 ≤ sp ∧ 0 ≤ dp) ∧ (0 ≤ n ∧ sp.toNatClampNeg + n.toNatClampNeg ≤ bw_len o1 ∧ dp.toNatClampNeg + n.toNatClampNeg ≤ bw_len o2) then k (pc + len) ls [] (bw_cp μ o1 o2 sp.toNatClampNeg dp.toNatClampNeg n.toNatClampNeg) else f) else f)) else
      bw_ar (b / 10 % 100) st [] f fun as r => bif Nat.ble (bw_wd r) 8 then (match b % 10 with
      | 0 => bw_bV (call a as μ) f fun μ => k (pc + len) ls r μ
      | 2 => bw_bL (call a as μ) f fun x μ => k (pc + len) ls (.inr (.inl x) :: r) μ
      | _ => bw_bI (call a as μ) f fun x μ => k (pc + len) ls (.inl x :: r) μ) else f
  | .ireturn => bw_i1 st f fun x r => bw_nl r f (match rt with
      | 1 => ret (some (.inl x), μ)
      | 3 => if x = 0 ∨ x = 1 then ret (some (.inl x), μ) else f
      | _ => f)
  | .lreturn => bw_l1 st f fun x r => bw_nl r f (match rt with
      | 2 => ret (some (.inr (.inl x)), μ)
      | _ => f)
  | .return_ => bw_nl st f (match rt with
      | 0 => ret (none, μ)
      | _ => f)
  | _ => f
def bw_find (t : List bwE) (pc : Nat) : Option bwE := match t with
  | [] => none
  | e :: r => bif Nat.beq e.1 pc then some e else bw_find r pc
def bw_run (call : Nat → List bwV → bwM → Option bwR) (sl : Nat) (sx : Nat → Int32) (rt : Nat) (t : List bwE) : Nat → Nat → List (Option bwV) → List bwV → bwM → Option bwR
  | 0, _, _, _, _ => none
  | n + 1, pc, ls, st, μ => match bw_find t pc with
    | some (_, ins, len, v, a, b, fg, sw) => bw_step call sl sx rt ins len v a b sw pc (bw_forget fg ls) st μ some none (bw_run call sl sx rt t n)
    | none => none
noncomputable def bw_ex (call : Nat → List bwV → bwM → Option bwR) (sl : Nat) (sx : Nat → Int32) (rt : Nat) (t : List bwE) (pc : Nat) (ls : List (Option bwV)) (st : List bwV) (μ : bwM) : Option bwR :=
  @dite _ (∃ r : bwR, ∃ n : Nat, bw_run call sl sx rt t n pc ls st μ = some r) (Classical.propDecidable _) (fun h => some (Classical.choose h)) (fun _ => none)
/-- at most one of: a return, a fault, one step -/
def bw_lin (F : (β : Type) → (bwR → β) → β → (Nat → List (Option bwV) → List bwV → bwM → β) → β) : Prop :=
  (∃ c : bwR, ∀ (β : Type) (r : bwR → β) (f : β) (k : Nat → List (Option bwV) → List bwV → bwM → β), F β r f k = r c) ∨ (∀ (β : Type) (r : bwR → β) (f : β) (k : Nat → List (Option bwV) → List bwV → bwM → β), F β r f k = f) ∨ (∃ (pc : Nat) (ls : List (Option bwV)) (st : List bwV) (μ : bwM), ∀ (β : Type) (r : bwR → β) (f : β) (k : Nat → List (Option bwV) → List bwV → bwM → β), F β r f k = k pc ls st μ)
theorem bw_linR (c : bwR) : bw_lin (fun β r f k => r c) := Or.inl ⟨c, fun _ _ _ _ => rfl⟩
theorem bw_linF : bw_lin (fun β r f k => f) := Or.inr (Or.inl fun _ _ _ _ => rfl)
theorem bw_linK (pc : Nat) (ls : List (Option bwV)) (st : List bwV) (μ : bwM) : bw_lin (fun β r f k => k pc ls st μ) := Or.inr (Or.inr ⟨pc, ls, st, μ, fun _ _ _ _ => rfl⟩)
section LIN
variable {F G : (β : Type) → (bwR → β) → β → (Nat → List (Option bwV) → List bwV → bwM → β) → β}
theorem bw_linIte {c : Prop} [d : Decidable c] (hF : bw_lin F) (hG : bw_lin G) : bw_lin (fun β r f k => if c then F β r f k else G β r f k) := by
  by_cases h : c
  · simp only [h, if_true]; exact hF
  · simp only [h, if_false]; exact hG
theorem bw_linB {c : Bool} (hF : bw_lin F) (hG : bw_lin G) : bw_lin (fun β r f k => bif c then F β r f k else G β r f k) := by
  cases c
  · exact hG
  · exact hF
theorem bw_linGI {v : bwV} {F : Int32 → (β : Type) → (bwR → β) → β → (Nat → List (Option bwV) → List bwV → bwM → β) → β} (h : ∀ x, bw_lin (F x)) : bw_lin (fun β r f k => bw_gI v f fun x => F x β r f k) := by
  rcases v with x | x | x
  · exact h x
  · exact bw_linF
  · exact bw_linF
theorem bw_linGL {v : bwV} {F : Int64 → (β : Type) → (bwR → β) → β → (Nat → List (Option bwV) → List bwV → bwM → β) → β} (h : ∀ x, bw_lin (F x)) : bw_lin (fun β r f k => bw_gL v f fun x => F x β r f k) := by
  rcases v with x | x | x
  · exact bw_linF
  · exact h x
  · exact bw_linF
theorem bw_linGR {v : bwV} {F : Nat → (β : Type) → (bwR → β) → β → (Nat → List (Option bwV) → List bwV → bwM → β) → β} (h : ∀ x, bw_lin (F x)) : bw_lin (fun β r f k => bw_gR v f fun x => F x β r f k) := by
  rcases v with x | x | x
  · exact bw_linF
  · exact bw_linF
  · exact h x
theorem bw_linPP {st : List bwV} {F : bwV → List bwV → (β : Type) → (bwR → β) → β → (Nat → List (Option bwV) → List bwV → bwM → β) → β} (h : ∀ v q, bw_lin (F v q)) : bw_lin (fun β r f k => bw_pp st f fun v q => F v q β r f k) := by
  rcases st with _ | ⟨v, q⟩
  · exact bw_linF
  · exact h v q
theorem bw_linLk {o : Option (Option bwV)} {F : bwV → (β : Type) → (bwR → β) → β → (Nat → List (Option bwV) → List bwV → bwM → β) → β} (h : ∀ v, bw_lin (F v)) : bw_lin (fun β r f k => bw_lk o f fun v => F v β r f k) := by
  rcases o with _ | _ | v
  · exact bw_linF
  · exact bw_linF
  · exact h v
theorem bw_linNl {st : List bwV} (h : bw_lin F) : bw_lin (fun β r f k => bw_nl st f (F β r f k)) := by
  rcases st with _ | ⟨v, q⟩
  · exact h
  · exact bw_linF
theorem bw_linBI {o : Option bwR} {F : Int32 → bwM → (β : Type) → (bwR → β) → β → (Nat → List (Option bwV) → List bwV → bwM → β) → β} (h : ∀ x μ, bw_lin (F x μ)) : bw_lin (fun β r f k => bw_bI o f fun x μ => F x μ β r f k) := by
  rcases o with _ | ⟨_ | x | x | x, μ⟩
  · exact bw_linF
  · exact bw_linF
  · exact h x μ
  · exact bw_linF
  · exact bw_linF
theorem bw_linBL {o : Option bwR} {F : Int64 → bwM → (β : Type) → (bwR → β) → β → (Nat → List (Option bwV) → List bwV → bwM → β) → β} (h : ∀ x μ, bw_lin (F x μ)) : bw_lin (fun β r f k => bw_bL o f fun x μ => F x μ β r f k) := by
  rcases o with _ | ⟨_ | x | x | x, μ⟩
  · exact bw_linF
  · exact bw_linF
  · exact bw_linF
  · exact h x μ
  · exact bw_linF
theorem bw_linBV {o : Option bwR} {F : bwM → (β : Type) → (bwR → β) → β → (Nat → List (Option bwV) → List bwV → bwM → β) → β} (h : ∀ μ, bw_lin (F μ)) : bw_lin (fun β r f k => bw_bV o f fun μ => F μ β r f k) := by
  rcases o with _ | ⟨_ | x, μ⟩
  · exact bw_linF
  · exact h μ
  · exact bw_linF
theorem bw_linRc {as : List bwV} {c : Nat} {cls : Nat → Nat} (h : bw_lin F) : bw_lin (fun β r f k => bw_rc as c cls f (F β r f k)) := by
  rcases as with _ | ⟨x | x | x, q⟩
  · exact bw_linF
  · exact bw_linF
  · exact bw_linF
  · exact bw_linB h bw_linF
theorem bw_linSw {x : Int32} {l : List (Int32 × Nat)} {F : Nat → (β : Type) → (bwR → β) → β → (Nat → List (Option bwV) → List bwV → bwM → β) → β} (hG : bw_lin G) (h : ∀ t, bw_lin (F t)) : bw_lin (fun β r f k => bw_sw x l (G β r f k) fun t => F t β r f k) := by
  induction l with
  | nil => exact hG
  | cons q l ih => exact bw_linIte (h q.2) ih
theorem bw_linAr {n : Nat} {F : List bwV → List bwV → (β : Type) → (bwR → β) → β → (Nat → List (Option bwV) → List bwV → bwM → β) → β} (h : ∀ as q, bw_lin (F as q)) : ∀ st acc : List bwV, bw_lin (fun β r f k => bw_ar n st acc f fun as q => F as q β r f k) := by
  induction n with
  | zero => intro st acc; exact h acc st
  | succ n ih =>
    intro st acc
    rcases st with _ | ⟨v, q⟩
    · exact bw_linF
    · exact ih q (v :: acc)
theorem bw_linI1 {st : List bwV} {F : Int32 → List bwV → (β : Type) → (bwR → β) → β → (Nat → List (Option bwV) → List bwV → bwM → β) → β} (h : ∀ x q, bw_lin (F x q)) : bw_lin (fun β r f k => bw_i1 st f fun x q => F x q β r f k) := bw_linPP fun _ q => bw_linGI fun x => h x q
theorem bw_linL1 {st : List bwV} {F : Int64 → List bwV → (β : Type) → (bwR → β) → β → (Nat → List (Option bwV) → List bwV → bwM → β) → β} (h : ∀ x q, bw_lin (F x q)) : bw_lin (fun β r f k => bw_l1 st f fun x q => F x q β r f k) := bw_linPP fun _ q => bw_linGL fun x => h x q
theorem bw_linR1 {st : List bwV} {F : Nat → List bwV → (β : Type) → (bwR → β) → β → (Nat → List (Option bwV) → List bwV → bwM → β) → β} (h : ∀ x q, bw_lin (F x q)) : bw_lin (fun β r f k => bw_r1 st f fun x q => F x q β r f k) := bw_linPP fun _ q => bw_linGR fun x => h x q
theorem bw_linI2 {st : List bwV} {F : Int32 → Int32 → List bwV → (β : Type) → (bwR → β) → β → (Nat → List (Option bwV) → List bwV → bwM → β) → β} (h : ∀ x y q, bw_lin (F x y q)) : bw_lin (fun β r f k => bw_i2 st f fun x y q => F x y q β r f k) := bw_linPP fun _ _ => bw_linPP fun _ q => bw_linGI fun y => bw_linGI fun x => h x y q
theorem bw_linL2 {st : List bwV} {F : Int64 → Int64 → List bwV → (β : Type) → (bwR → β) → β → (Nat → List (Option bwV) → List bwV → bwM → β) → β} (h : ∀ x y q, bw_lin (F x y q)) : bw_lin (fun β r f k => bw_l2 st f fun x y q => F x y q β r f k) := bw_linPP fun _ _ => bw_linPP fun _ q => bw_linGL fun y => bw_linGL fun x => h x y q
end LIN
theorem bw_linCall (call : Nat → List bwV → bwM → Option bwR) (len a b : Nat) (pc : Nat) (ls : List (Option bwV)) (st : List bwV) (μ : bwM) : bw_lin (fun β r f k => bw_ar (b / 10 % 100) st [] f fun as q => bif Nat.ble (bw_wd q) 8 then (match b % 10 with
      | 0 => bw_bV (call a as μ) f fun μ => k (pc + len) ls q μ
      | 2 => bw_bL (call a as μ) f fun x μ => k (pc + len) ls (.inr (.inl x) :: q) μ
      | _ => bw_bI (call a as μ) f fun x μ => k (pc + len) ls (.inl x :: q) μ) else f) := by
  refine bw_linAr (fun as q => bw_linB ?_ bw_linF) st []
  split
  · exact bw_linBV fun μ => bw_linK _ _ _ _
  · exact bw_linBL fun x μ => bw_linK _ _ _ _
  · exact bw_linBI fun x μ => bw_linK _ _ _ _
set_option maxHeartbeats 4000000 in
theorem bw_shape (call : Nat → List bwV → bwM → Option bwR) (sl : Nat) (sx : Nat → Int32) (rt : Nat) (ins : Instr) (len : Nat) (v : Int32) (a b : Nat) (sw : List (Int32 × Nat)) (pc : Nat) (ls : List (Option bwV)) (st : List bwV) (μ : bwM) : bw_lin (fun β r f k => bw_step (β := β) call sl sx rt ins len v a b sw pc ls st μ r f k) := by
  unfold bw_step
  split
  iterate 5 exact bw_linK _ _ _ _
  iterate 2 exact bw_linLk fun x => bw_linGI fun x => bw_linK _ _ _ _
  iterate 2 exact bw_linLk fun x => bw_linGL fun x => bw_linK _ _ _ _
  iterate 2 exact bw_linLk fun x => bw_linGR fun x => bw_linK _ _ _ _
  iterate 2 exact bw_linI1 fun x q => bw_linK _ _ _ _
  iterate 2 exact bw_linL1 fun x q => bw_linK _ _ _ _
  · exact bw_linLk fun x => bw_linGI fun x => bw_linK _ _ _ _
  iterate 3 exact bw_linI2 fun x y q => bw_linK _ _ _ _
  · exact bw_linI2 fun x y q => bw_linIte bw_linF (bw_linK _ _ _ _)
  iterate 5 exact bw_linI2 fun x y q => bw_linK _ _ _ _
  iterate 3 exact bw_linL2 fun x y q => bw_linK _ _ _ _
  iterate 2 exact bw_linL2 fun x y q => bw_linIte bw_linF (bw_linK _ _ _ _)
  · exact bw_linL1 fun x q => bw_linK _ _ _ _
  · exact bw_linI1 fun x q => bw_linK _ _ _ _
  · exact bw_linL2 fun x y q => bw_linK _ _ _ _
  · exact bw_linPP fun x q => bw_linB bw_linF (bw_linK _ _ _ _)
  · exact bw_linPP fun x q => bw_linPP fun y q => bw_linB bw_linF (bw_linK _ _ _ _)
  · exact bw_linK _ _ _ _
  · split
    all_goals exact bw_linI1 fun x q => bw_linIte (bw_linK _ _ _ _) (bw_linK _ _ _ _)
  · split
    all_goals exact bw_linI2 fun x y q => bw_linIte (bw_linK _ _ _ _) (bw_linK _ _ _ _)
  · exact bw_linI1 fun x q => bw_linSw (bw_linK _ _ _ _) fun t => bw_linK _ _ _ _
  · refine bw_linR1 fun o q => bw_linB ?_ bw_linF
    split
    all_goals exact bw_linK _ _ _ _
  · refine bw_linPP fun x q => bw_linR1 fun o q => bw_linB ?_ bw_linF
    split
    · exact bw_linGI fun x => bw_linK _ _ _ _
    · exact bw_linGL fun x => bw_linK _ _ _ _
    · exact bw_linF
  · exact bw_linI1 fun i q => bw_linR1 fun o q => bw_linB (bw_linIte (bw_linK _ _ _ _) bw_linF) (bw_linB (bw_linIte (bw_linK _ _ _ _) bw_linF) bw_linF)
  iterate 2 exact bw_linI1 fun i q => bw_linR1 fun o q => bw_linB (bw_linIte (bw_linK _ _ _ _) bw_linF) bw_linF
  · exact bw_linI1 fun x q => bw_linI1 fun i q => bw_linR1 fun o q => bw_linB (bw_linIte (bw_linK _ _ _ _) bw_linF) bw_linF
  · exact bw_linL1 fun x q => bw_linI1 fun i q => bw_linR1 fun o q => bw_linB (bw_linIte (bw_linK _ _ _ _) bw_linF) bw_linF
  · exact bw_linI1 fun x q => bw_linI1 fun i q => bw_linR1 fun o q => bw_linB (bw_linIte (bw_linK _ _ _ _) bw_linF) bw_linF
  · exact bw_linR1 fun o q => bw_linB (bw_linB bw_linF (bw_linK _ _ _ _)) (bw_linB (bw_linK _ _ _ _) bw_linF)
  · refine bw_linAr (fun as q => bw_linRc (bw_linB ?_ bw_linF)) st []
    split
    · exact bw_linBV fun μ => bw_linK _ _ _ _
    · exact bw_linBL fun x μ => bw_linK _ _ _ _
    · exact bw_linBI fun x μ => bw_linK _ _ _ _
  · refine bw_linB (bw_linI2 fun x y q => bw_linB (bw_linK _ _ _ _) bw_linF) (bw_linB (bw_linL1 fun x q => bw_linB (bw_linK _ _ _ _) bw_linF) ?_)
    exact bw_linB (bw_linI1 fun n q => bw_linI1 fun dp q => bw_linR1 fun o2 q => bw_linI1 fun sp q => bw_linR1 fun o1 q => bw_linNl (bw_linB (bw_linIte (bw_linK _ _ _ _) bw_linF) bw_linF)) (bw_linCall call len a b pc ls st μ)
  · refine bw_linI1 fun x q => bw_linNl ?_
    split
    · exact bw_linR _
    · exact bw_linIte (bw_linR _) bw_linF
    · exact bw_linF
  · refine bw_linL1 fun x q => bw_linNl ?_
    split
    · exact bw_linR _
    · exact bw_linF
  · refine bw_linNl ?_
    split
    · exact bw_linR _
    · exact bw_linF
  · exact bw_linF
section RUN
variable {call : Nat → List bwV → bwM → Option bwR} {sl : Nat} {sx : Nat → Int32} {rt : Nat} {t : List bwE}
theorem bw_run_up : ∀ (n pc : Nat) (ls : List (Option bwV)) (st : List bwV) (μ : bwM) (r : bwR), bw_run call sl sx rt t n pc ls st μ = some r → bw_run call sl sx rt t (n + 1) pc ls st μ = some r := by
  intro n
  induction n with
  | zero => intro pc ls st μ r h; cases h
  | succ n ih =>
    intro pc ls st μ r h
    unfold bw_run at h ⊢
    cases hf : bw_find t pc with
    | none => rw [hf] at h; cases h
    | some q =>
      obtain ⟨p0, ins, len, v, a, b, fg, sw⟩ := q
      rw [hf] at h
      dsimp only at h ⊢
      rcases bw_shape call sl sx rt ins len v a b sw pc (bw_forget fg ls) st μ with ⟨c, hc⟩ | hc | ⟨pc', ls', st', μ', hc⟩ <;> dsimp only at hc
      · rw [hc] at h ⊢; exact h
      · rw [hc] at h; cases h
      · rw [hc] at h ⊢; exact ih _ _ _ _ _ h
theorem bw_run_mono {n m pc : Nat} {ls : List (Option bwV)} {st : List bwV} {μ : bwM} {r : bwR} (hnm : n ≤ m) (h : bw_run call sl sx rt t n pc ls st μ = some r) : bw_run call sl sx rt t m pc ls st μ = some r := by
  induction hnm with
  | refl => exact h
  | step _ ih => exact bw_run_up _ _ _ _ _ _ ih
theorem bw_ex_iff {pc : Nat} {ls : List (Option bwV)} {st : List bwV} {μ : bwM} {r : bwR} : bw_ex call sl sx rt t pc ls st μ = some r ↔ ∃ n, bw_run call sl sx rt t n pc ls st μ = some r := by
  unfold bw_ex
  by_cases h : ∃ r : bwR, ∃ n : Nat, bw_run call sl sx rt t n pc ls st μ = some r
  · rw [dif_pos h]
    obtain ⟨n, hn⟩ := Classical.choose_spec h
    constructor
    · intro e; cases e; exact ⟨n, hn⟩
    · rintro ⟨m, hm⟩
      have h1 := bw_run_mono (Nat.le_max_left n m) hn
      have h2 := bw_run_mono (Nat.le_max_right n m) hm
      rw [h1] at h2
      exact h2
  · rw [dif_neg h]
    constructor
    · intro e; cases e
    · rintro ⟨m, hm⟩; exact absurd ⟨r, m, hm⟩ h
theorem bw_ex_step (pc : Nat) (ls : List (Option bwV)) (st : List bwV) (μ : bwM) : bw_ex call sl sx rt t pc ls st μ = (match bw_find t pc with
    | some (_, ins, len, v, a, b, fg, sw) => bw_step call sl sx rt ins len v a b sw pc (bw_forget fg ls) st μ some none (bw_ex call sl sx rt t)
    | none => none) := by
  apply Option.ext
  intro r
  rw [bw_ex_iff]
  cases hf : bw_find t pc with
  | none =>
    constructor
    · rintro ⟨n, hn⟩
      cases n with
      | zero => cases hn
      | succ n => unfold bw_run at hn; rw [hf] at hn; cases hn
    · intro h; cases h
  | some q =>
    obtain ⟨p0, ins, len, v, a, b, fg, sw⟩ := q
    dsimp only
    rcases bw_shape call sl sx rt ins len v a b sw pc (bw_forget fg ls) st μ with ⟨c, hc⟩ | hc | ⟨pc', ls', st', μ', hc⟩ <;> dsimp only at hc
    · rw [hc]
      constructor
      · rintro ⟨n, hn⟩
        cases n with
        | zero => cases hn
        | succ n => unfold bw_run at hn; rw [hf] at hn; dsimp only at hn; rw [hc] at hn; exact hn
      · intro h; exact ⟨1, by unfold bw_run; rw [hf]; dsimp only; rw [hc]; exact h⟩
    · rw [hc]
      constructor
      · rintro ⟨n, hn⟩
        cases n with
        | zero => cases hn
        | succ n => unfold bw_run at hn; rw [hf] at hn; dsimp only at hn; rw [hc] at hn; exact hn
      · intro h; cases h
    · rw [hc, bw_ex_iff]
      constructor
      · rintro ⟨n, hn⟩
        cases n with
        | zero => cases hn
        | succ n => unfold bw_run at hn; rw [hf] at hn; dsimp only at hn; rw [hc] at hn; exact ⟨n, hn⟩
      · rintro ⟨n, hn⟩; exact ⟨n + 1, by unfold bw_run; rw [hf]; dsimp only; rw [hc]; exact hn⟩
end RUN
/-- some steps at once, up to the pcs of 'cuts' -/
def bw_go (call : Nat → List bwV → bwM → Option bwR) (sl : Nat) (sx : Nat → Int32) (rt : Nat) (t : List bwE) (K : Nat → List (Option bwV) → List bwV → bwM → Option bwR) (cuts : List Nat) : Nat → Nat → List (Option bwV) → List bwV → bwM → Option bwR
  | 0, pc, ls, st, μ => K pc ls st μ
  | n + 1, pc, ls, st, μ => match bw_find t pc with
    | some (_, ins, len, v, a, b, fg, sw) => bw_step call sl sx rt ins len v a b sw pc (bw_forget fg ls) st μ some none (fun pc' ls' st' μ' => bif cuts.any (Nat.beq pc') then K pc' ls' st' μ' else bw_go call sl sx rt t K cuts n pc' ls' st' μ')
    | none => none
theorem bw_ex_go {call : Nat → List bwV → bwM → Option bwR} {sl : Nat} {sx : Nat → Int32} {rt : Nat} {t : List bwE} (cuts : List Nat) : ∀ (n pc : Nat) (ls : List (Option bwV)) (st : List bwV) (μ : bwM), bw_ex call sl sx rt t pc ls st μ = bw_go call sl sx rt t (bw_ex call sl sx rt t) cuts n pc ls st μ := by
  intro n
  induction n with
  | zero => intro pc ls st μ; rfl
  | succ n ih =>
    intro pc ls st μ
    rw [bw_ex_step]
    unfold bw_go
    cases hf : bw_find t pc with
    | none => rfl
    | some q =>
      obtain ⟨p0, ins, len, v, a, b, fg, sw⟩ := q
      dsimp only
      congr 1
      funext pc' ls' st' μ'
      cases cuts.any (Nat.beq pc') with
      | true => rfl
      | false => exact ih _ _ _ _
