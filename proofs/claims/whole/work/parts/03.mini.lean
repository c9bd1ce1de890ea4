/-! A verified walker: a pure predicate transformer over small states, and (next part) that the machine follows it. -/
/-- kinds of the small heap's cells, by small address (0 is null): (class number | 100 int[] | 101 long[] | 102 byte[] | 103 boolean[] | 104 Town[], places) -/
abbrev mo_K : Type := List (Nat × Nat)
/-- kinds, references, ints, longs, exceptions made -/
abbrev mo_S : Type := mo_K × (Nat → Nat → Nat) × (Nat → Nat → Int32) × (Nat → Nat → Int64) × Nat
abbrev mo_L : Type := List (Option Value)
/-- place, locals, stack, heap -/
abbrev mo_F : Type := Nat × mo_L × List Value × mo_S
/-- an instruction with its length and its links: (instruction, length, a, b, t, constant) -/
abbrev mo_I : Type := ClassFile.Instr × Nat × Nat × Nat × Nat × Value
abbrev mo_T : Type := Option ((mo_F → Prop) → Prop)
/-- beside the heap: the script's length and ints, how many cells and places the method may have come to -/
abbrev mo_X : Type := Nat × (Nat → Int32) × Nat × Nat
def mo_own (j : Nat) : Int32 := ([13358, 17484389, 460197, 3650739, 86292723, 515251, 212147, 307, 14836] : List Int32).getD j 0
def mo_wit (j : Nat) : Int64 := ([6148914691236517205, 3689348814741910323, 1085102592571150095, 71777214294589695, 281470681808895, 4294967295] : List Int64).getD j 0
def mo_up {α : Type} (f : Nat → Nat → α) (a k : Nat) (v : α) : Nat → Nat → α := fun x y => if x = a ∧ y = k then v else f x y
def mo_zr {α : Type} (f : Nat → Nat → α) (a : Nat) (v : α) : Nat → Nat → α := fun x y => if x = a then v else f x y
def mo_kd (K : mo_K) (a : Nat) : Nat := match K[a]? with
  | some q => q.1
  | none => 99
def mo_ln (K : mo_K) (a : Nat) : Nat := match K[a]? with
  | some q => q.2
  | none => 0
def mo_sz (K : mo_K) : Nat := (K.map (fun q => q.2)).sum
def mo_gi (ml : mo_L) (k : Nat) : Option Int32 := match ml[k]? with
  | some (some (.int x)) => some x
  | _ => none
def mo_gl (ml : mo_L) (k : Nat) : Option Int64 := match ml[k]? with
  | some (some (.long x)) => some x
  | _ => none
def mo_gr (ml : mo_L) (k : Nat) : Option Nat := match ml[k]? with
  | some (some (.ref x)) => some x
  | _ => none
def mo_is2 : Value → Bool
  | .long _ => true
  | .double _ => true
  | _ => false
/-- a long whose second half is overwritten is gone -/
def mo_cl (ml : mo_L) (k : Nat) : mo_L := match k with
  | 0 => ml
  | j + 1 => match ml[j]? with
    | some (some w) => match mo_is2 w with
      | true => ml.set j none
      | false => ml
    | _ => ml
def mo_s1 (ml : mo_L) (k : Nat) (v : Value) : mo_L := (mo_cl ml k).set k (some v)
def mo_s2 (ml : mo_L) (k : Nat) (v : Value) : mo_L := ((mo_cl ml k).set k (some v)).set (k + 1) none
def mo_pi (st : List Value) (f : Int32 → List Value → mo_T) : mo_T := match st with
  | .int x :: r => f x r
  | _ => none
def mo_pii (st : List Value) (f : Int32 → Int32 → List Value → mo_T) : mo_T := match st with
  | .int y :: .int x :: r => f x y r
  | _ => none
def mo_pl (st : List Value) (f : Int64 → List Value → mo_T) : mo_T := match st with
  | .long x :: r => f x r
  | _ => none
def mo_pll (st : List Value) (f : Int64 → Int64 → List Value → mo_T) : mo_T := match st with
  | .long y :: .long x :: r => f x y r
  | _ => none
def mo_pli (st : List Value) (f : Int64 → Int32 → List Value → mo_T) : mo_T := match st with
  | .int y :: .long x :: r => f x y r
  | _ => none
def mo_pr (st : List Value) (f : Nat → List Value → mo_T) : mo_T := match st with
  | .ref a :: r => f a r
  | _ => none
/-- an index over an array -/
def mo_pra (st : List Value) (f : Nat → Int32 → List Value → mo_T) : mo_T := match st with
  | .int i :: .ref a :: r => f a i r
  | _ => none
def mo_prai (st : List Value) (f : Nat → Int32 → Int32 → List Value → mo_T) : mo_T := match st with
  | .int x :: .int i :: .ref a :: r => f a i x r
  | _ => none
def mo_pral (st : List Value) (f : Nat → Int32 → Int64 → List Value → mo_T) : mo_T := match st with
  | .long x :: .int i :: .ref a :: r => f a i x r
  | _ => none
def mo_prar (st : List Value) (f : Nat → Int32 → Nat → List Value → mo_T) : mo_T := match st with
  | .ref x :: .int i :: .ref a :: r => f a i x r
  | _ => none
def mo_pir (st : List Value) (f : Nat → Int32 → List Value → mo_T) : mo_T := match st with
  | .int x :: .ref a :: r => f a x r
  | _ => none
def mo_plr (st : List Value) (f : Nat → Int64 → List Value → mo_T) : mo_T := match st with
  | .long x :: .ref a :: r => f a x r
  | _ => none
def mo_prr (st : List Value) (f : Nat → Nat → List Value → mo_T) : mo_T := match st with
  | .ref x :: .ref a :: r => f a x r
  | _ => none
def mo_go (f : mo_F) : mo_T := some (fun k => k f)
def mo_br (c : Prop) (f g : mo_F) : mo_T := some (fun k => (c → k f) ∧ (¬ c → k g))
def mo_ob (c : Prop) (f : mo_F) : mo_T := some (fun k => c ∧ k f)
def mo_cat1 : Value → Bool
  | .int _ => true
  | .ref _ => true
  | _ => false
/-- the six comparisons, as the machine's rows tell them: (condition, whether it is told the other way) -/
def mo_cmp (o : ClassFile.Cond) (x y : Int32) (t f : mo_F) : mo_T := match o with
  | .eq => mo_br (x = y) t f
  | .ne => mo_br (x = y) f t
  | .lt => mo_br (x < y) t f
  | .ge => mo_br (y ≤ x) t f
  | .gt => mo_br (y < x) t f
  | .le => mo_br (x ≤ y) t f
/-- one instruction -/
def mo_step (X : mo_X) (i : mo_I) (pc : Nat) (ml : mo_L) (st : List Value) (σ : mo_S) : mo_T :=
  match i with
  | (op, len, a, b, t, v) => match σ with
  | (K, R, I, L, x) => match op with
  | .iconst _ => mo_go (pc + len, ml, v :: st, σ)
  | .bipush _ => mo_go (pc + len, ml, v :: st, σ)
  | .sipush _ => mo_go (pc + len, ml, v :: st, σ)
  | .lconst _ => mo_go (pc + len, ml, v :: st, σ)
  | .ldc _ => mo_go (pc + len, ml, v :: st, σ)
  | .ldc_w _ => mo_go (pc + len, ml, v :: st, σ)
  | .ldc2_w _ => mo_go (pc + len, ml, v :: st, σ)
  | .iload_n k => (mo_gi ml k).bind fun x => mo_go (pc + 1, ml, .int x :: st, σ)
  | .iload k => (mo_gi ml k).bind fun x => mo_go (pc + 2, ml, .int x :: st, σ)
  | .lload_n k => (mo_gl ml k).bind fun x => mo_go (pc + 1, ml, .long x :: st, σ)
  | .lload k => (mo_gl ml k).bind fun x => mo_go (pc + 2, ml, .long x :: st, σ)
  | .aload_n k => (mo_gr ml k).bind fun x => mo_go (pc + 1, ml, .ref x :: st, σ)
  | .aload k => (mo_gr ml k).bind fun x => mo_go (pc + 2, ml, .ref x :: st, σ)
  | .istore_n k => mo_pi st fun x r => if (k : Nat) < ml.length then mo_go (pc + 1, mo_s1 ml k (.int x), r, σ) else none
  | .istore k => mo_pi st fun x r => if k < ml.length then mo_go (pc + 2, mo_s1 ml k (.int x), r, σ) else none
  | .astore_n k => mo_pr st fun x r => if (k : Nat) < ml.length then mo_go (pc + 1, mo_s1 ml k (.ref x), r, σ) else none
  | .astore k => mo_pr st fun x r => if k < ml.length then mo_go (pc + 2, mo_s1 ml k (.ref x), r, σ) else none
  | .lstore_n k => mo_pl st fun x r => if (k : Nat) + 1 < ml.length then mo_go (pc + 1, mo_s2 ml k (.long x), r, σ) else none
  | .lstore k => mo_pl st fun x r => if k + 1 < ml.length then mo_go (pc + 2, mo_s2 ml k (.long x), r, σ) else none
  | .iinc k n => (mo_gi ml k).bind fun x => if k < ml.length then mo_go (pc + 3, mo_s1 ml k (.int (x + Int32.ofInt n)), st, σ) else none
  | .iadd => mo_pii st fun x y r => mo_go (pc + 1, ml, .int (x + y) :: r, σ)
  | .isub => mo_pii st fun x y r => mo_go (pc + 1, ml, .int (x - y) :: r, σ)
  | .imul => mo_pii st fun x y r => mo_go (pc + 1, ml, .int (x * y) :: r, σ)
  | .iand => mo_pii st fun x y r => mo_go (pc + 1, ml, .int (x &&& y) :: r, σ)
  | .ior => mo_pii st fun x y r => mo_go (pc + 1, ml, .int (x ||| y) :: r, σ)
  | .ixor => mo_pii st fun x y r => mo_go (pc + 1, ml, .int (x ^^^ y) :: r, σ)
  | .idiv => mo_pii st fun x y r => mo_ob (¬ y = 0) (pc + 1, ml, .int (x / y) :: r, σ)
  | .irem => mo_pii st fun x y r => mo_ob (¬ y = 0) (pc + 1, ml, .int (x - x / y * y) :: r, σ)
  | .ishl => mo_pii st fun x y r => mo_go (pc + 1, ml, .int (x <<< (y &&& 31)) :: r, σ)
  | .ishr => mo_pii st fun x y r => mo_go (pc + 1, ml, .int (x >>> (y &&& 31)) :: r, σ)
  | .iushr => mo_pii st fun x y r => mo_go (pc + 1, ml, .int (x.toUInt32 >>> (y.toUInt32 &&& Int32.toUInt32 31)).toInt32 :: r, σ)
  | .ineg => mo_pi st fun x r => mo_go (pc + 1, ml, .int (-x) :: r, σ)
  | .ladd => mo_pll st fun x y r => mo_go (pc + 1, ml, .long (x + y) :: r, σ)
  | .lsub => mo_pll st fun x y r => mo_go (pc + 1, ml, .long (x - y) :: r, σ)
  | .lmul => mo_pll st fun x y r => mo_go (pc + 1, ml, .long (x * y) :: r, σ)
  | .land => mo_pll st fun x y r => mo_go (pc + 1, ml, .long (x &&& y) :: r, σ)
  | .lor => mo_pll st fun x y r => mo_go (pc + 1, ml, .long (x ||| y) :: r, σ)
  | .ldiv => mo_pll st fun x y r => mo_ob (¬ y = 0) (pc + 1, ml, .long (x / y) :: r, σ)
  | .lrem => mo_pll st fun x y r => mo_ob (¬ y = 0) (pc + 1, ml, .long (x - x / y * y) :: r, σ)
  | .lneg => mo_pl st fun x r => mo_go (pc + 1, ml, .long (-x) :: r, σ)
  | .lshl => mo_pli st fun x y r => mo_go (pc + 1, ml, .long (x <<< (y.toInt64 &&& 63)) :: r, σ)
  | .lushr => mo_pli st fun x y r => mo_go (pc + 1, ml, .long (x.toUInt64 >>> (y.toInt64.toUInt64 &&& Int64.toUInt64 63)).toInt64 :: r, σ)
  | .lcmp => mo_pll st fun x y r => mo_go (pc + 1, ml, .int (lg_cmp x y) :: r, σ)
  | .i2l => mo_pi st fun x r => mo_go (pc + 1, ml, .long x.toInt64 :: r, σ)
  | .l2i => mo_pl st fun x r => mo_go (pc + 1, ml, .int x.toInt32 :: r, σ)
  | .i2b => mo_pi st fun x r => mo_go (pc + 1, ml, .int x.toInt8.toInt32 :: r, σ)
  | .dup => match st with
    | w :: r => if mo_cat1 w then mo_go (pc + 1, ml, w :: w :: r, σ) else none
    | _ => none
  | .pop => match st with
    | w :: r => if mo_cat1 w then mo_go (pc + 1, ml, r, σ) else none
    | _ => none
  | .dup2 => match st with
    | w :: u :: r => if mo_cat1 w && mo_cat1 u then mo_go (pc + 1, ml, w :: u :: w :: u :: r, σ) else none
    | _ => none
  | .ifCond o _ => mo_pi st fun x r => mo_cmp o x 0 (a, ml, r, σ) (pc + 3, ml, r, σ)
  | .if_icmp o _ => mo_pii st fun x y r => mo_cmp o x y (a, ml, r, σ) (pc + 3, ml, r, σ)
  | .goto _ => mo_go (a, ml, st, σ)
  | .getfield _ => mo_pr st fun q r => mo_ob (mo_kd K q = a) (pc + 3, ml, (match t with
      | 1 => Value.long (L q b)
      | 2 => Value.ref (R q b)
      | _ => Value.int (I q b)) :: r, σ)
  | .putfield _ => match t with
    | 1 => mo_plr st fun q y r => mo_ob (mo_kd K q = a) (pc + 3, ml, r, (K, R, I, mo_up L q b y, x))
    | 2 => mo_prr st fun q y r => mo_ob (mo_kd K q = a) (pc + 3, ml, r, (K, mo_up R q b y, I, L, x))
    | 3 => mo_pir st fun q y r => mo_ob (mo_kd K q = a ∧ (y = 0 ∨ y = 1)) (pc + 3, ml, r, (K, R, mo_up I q b y, L, x))
    | _ => mo_pir st fun q y r => mo_ob (mo_kd K q = a) (pc + 3, ml, r, (K, R, mo_up I q b y, L, x))
  | .iaload => mo_pra st fun q i r => match t with
    | 0 => mo_ob (mo_kd K q = 100 ∧ vp_in i (mo_ln K q)) (pc + 1, ml, .int (I q i.toNatClampNeg) :: r, σ)
    | 1 => mo_ob (q = 1000001 ∧ vp_in i 9) (pc + 1, ml, .int (mo_own i.toNatClampNeg) :: r, σ)
    | _ => mo_ob (q = 1000000 ∧ vp_in i X.1) (pc + 1, ml, .int (X.2.1 i.toNatClampNeg) :: r, σ)
  | .laload => mo_pra st fun q i r => match t with
    | 0 => mo_ob (mo_kd K q = 101 ∧ vp_in i (mo_ln K q)) (pc + 1, ml, .long (L q i.toNatClampNeg) :: r, σ)
    | _ => mo_ob (q = 1000002 ∧ vp_in i 6) (pc + 1, ml, .long (mo_wit i.toNatClampNeg) :: r, σ)
  | .getstatic _ => mo_go (pc + 3, ml, .ref a :: st, σ)
  | .new _ => mo_ob (x = 0 ∧ K.length + 1 ≤ X.2.2.1 ∧ mo_sz K + b ≤ X.2.2.2) (pc + 3, ml, .ref K.length :: st, (K ++ [(a, b)], mo_zr R K.length 0, mo_zr I K.length 0, mo_zr L K.length 0, x))
  | .newarray _ => mo_pi st fun n r => mo_ob (x = 0 ∧ K.length + 1 ≤ X.2.2.1 ∧ mo_sz K + n.toNatClampNeg ≤ X.2.2.2 ∧ ¬ n < 0 ∧ n.toNatClampNeg ≤ 67108864) (pc + 2, ml, .ref K.length :: r, (K ++ [(a, n.toNatClampNeg)], mo_zr R K.length 0, mo_zr I K.length 0, mo_zr L K.length 0, x))
  | .anewarray _ => mo_pi st fun n r => mo_ob (x = 0 ∧ K.length + 1 ≤ X.2.2.1 ∧ mo_sz K + n.toNatClampNeg ≤ X.2.2.2 ∧ ¬ n < 0 ∧ n.toNatClampNeg ≤ 67108864) (pc + 3, ml, .ref K.length :: r, (K ++ [(104, n.toNatClampNeg)], mo_zr R K.length 0, mo_zr I K.length 0, mo_zr L K.length 0, x))
  | .baload => mo_pra st fun q i r => mo_ob (mo_kd K q = 102 + t ∧ vp_in i (mo_ln K q)) (pc + 1, ml, .int (I q i.toNatClampNeg) :: r, σ)
  | .aaload => mo_pra st fun q i r => mo_ob (mo_kd K q = 104 ∧ vp_in i (mo_ln K q)) (pc + 1, ml, .ref (R q i.toNatClampNeg) :: r, σ)
  | .iastore => mo_prai st fun q i y r => mo_ob (mo_kd K q = 100 ∧ vp_in i (mo_ln K q)) (pc + 1, ml, r, (K, R, mo_up I q i.toNatClampNeg y, L, x))
  | .lastore => mo_pral st fun q i y r => mo_ob (mo_kd K q = 101 ∧ vp_in i (mo_ln K q)) (pc + 1, ml, r, (K, R, I, mo_up L q i.toNatClampNeg y, x))
  | .bastore => mo_prai st fun q i y r => match t with
    | 0 => mo_ob (mo_kd K q = 102 ∧ vp_in i (mo_ln K q)) (pc + 1, ml, r, (K, R, mo_up I q i.toNatClampNeg (vp_nar .byte y), L, x))
    | _ => mo_ob (mo_kd K q = 103 ∧ vp_in i (mo_ln K q)) (pc + 1, ml, r, (K, R, mo_up I q i.toNatClampNeg (vp_nar .boolean y), L, x))
  | .aastore => mo_prar st fun q i y r => mo_ob (mo_kd K q = 104 ∧ vp_in i (mo_ln K q) ∧ mo_kd K y = a) (pc + 1, ml, r, (K, mo_up R q i.toNatClampNeg y, I, L, x))
  | .arraylength => mo_pr st fun q r => match t with
    | 0 => mo_ob (100 ≤ mo_kd K q ∧ mo_kd K q ≤ 104) (pc + 1, ml, .int (Int32.ofNat (mo_ln K q)) :: r, σ)
    | 1 => mo_ob (q = 1000001) (pc + 1, ml, .int 9 :: r, σ)
    | 2 => mo_ob (q = 1000002) (pc + 1, ml, .int 6 :: r, σ)
    | _ => mo_ob (q = 1000000 ∧ 0 < X.1) (pc + 1, ml, .int (Int32.ofNat X.1) :: r, σ)
  | _ => none
/-- the row at a place -/
def mo_at : List (Nat × mo_I) → Nat → Option mo_I
  | [], _ => none
  | q :: r, pc => match Nat.beq q.1 pc with
    | true => some q.2
    | false => mo_at r pc
/-- what must hold for the walk from f on, up to the places of 'cuts', to calls, makings and returns, and at most n instructions -/
def mo_wp (X : mo_X) (code : List (Nat × mo_I)) (cuts : List Nat) : Nat → mo_F → (mo_F → Prop) → Prop
  | 0, f, k => k f
  | n + 1, (pc, ml, st, σ), k => match cuts.any (fun q => Nat.beq q pc) with
    | true => k (pc, ml, st, σ)
    | false => match mo_at code pc with
      | none => k (pc, ml, st, σ)
      | some i => match mo_step X i pc ml st σ with
        | none => k (pc, ml, st, σ)
        | some T => T (fun f => mo_wp X code cuts n f k)
/-- the same, with a first instruction in any case -/
def mo_wq (X : mo_X) (code : List (Nat × mo_I)) (cuts : List Nat) (n : Nat) (f : mo_F) (k : mo_F → Prop) : Prop := match f with
  | (pc, ml, st, σ) => match mo_at code pc with
    | none => k f
    | some i => match mo_step X i pc ml st σ with
      | none => k f
      | some T => T (fun f => mo_wp X code cuts n f k)
