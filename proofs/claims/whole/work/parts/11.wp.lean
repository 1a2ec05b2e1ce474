/-! THE PURE MACHINE: numbers in places of a world of fixed shape; a block of instructions as a condition on what is ahead of it. -/
abbrev MT : Type := Nat → Nat → Int32
abbrev LT : Type := List (Option Value)
abbrev SH : Type := (Bool × Nat) ⊕ List Nat ⊕ (Nat × List (Option Nat))
abbrev ET : Type := Instr × Nat × Nat × Nat × Int32
abbrev KT : Type := Option Value → MT → Prop
abbrev CC : Type := Nat → Nat → List Value → MT → KT → Prop
abbrev XT : Type := Nat → LT → List Value → MT → Prop
abbrev ST : Type := Option (Nat × (Nat → Int32))
def shR : List (List SH) := [
  [.inr (.inr (7, [some 1, some 6, some 8, some 15, some 22, some 24, some 41, some 44, some 46, none, none])), .inr (.inr (4, [some 2, some 3, some 4, some 5])), .inl (false, 8), .inl (false, 8), .inl (false, 320), .inl (false, 40), .inr (.inr (6, [some 7, none, none, none, none, none, none])), .inl (false, 140)],
  [.inr (.inr (2, [none, none, none, none, none, none, none, none, some 9, some 10, some 11, some 12, some 13, some 14])), .inl (false, 5), .inl (false, 5), .inl (false, 5), .inl (false, 5), .inl (false, 25), .inl (false, 12), .inr (.inr (2, [none, none, none, none, none, none, none, none, some 16, some 17, some 18, some 19, some 20, some 21]))],
  [.inl (false, 5), .inl (false, 5), .inl (false, 5), .inl (false, 5), .inl (false, 25), .inl (false, 12), .inr (.inr (0, [some 23, none, none])), .inl (false, 792)],
  [.inr (.inr (5, [some 25, some 32, some 39, some 40, none, none])), .inr (.inr (2, [none, none, none, none, none, none, none, none, some 26, some 27, some 28, some 29, some 30, some 31])), .inl (false, 5), .inl (false, 5), .inl (false, 5), .inl (false, 5), .inl (false, 25), .inl (false, 12)],
  [.inr (.inr (2, [none, none, none, none, none, none, none, none, some 33, some 34, some 35, some 36, some 37, some 38])), .inl (false, 5), .inl (false, 5), .inl (false, 5), .inl (false, 5), .inl (false, 25), .inl (false, 12), .inl (false, 1005)],
  [.inl (false, 201), .inr (.inr (3, [some 42, some 43, none])), .inl (false, 6), .inl (false, 6), .inr (.inr (1, [some 45, none, none, none, none, none])), .inl (false, 16), .inr (.inl [47, 54]), .inr (.inr (2, [none, none, none, none, none, none, none, none, some 48, some 49, some 50, some 51, some 52, some 53]))],
  [.inl (false, 5), .inl (false, 5), .inl (false, 5), .inl (false, 5), .inl (false, 25), .inl (false, 12), .inr (.inr (2, [none, none, none, none, none, none, none, none, some 55, some 56, some 57, some 58, some 59, some 60])), .inl (false, 5)],
  [.inl (false, 5), .inl (false, 5), .inl (false, 5), .inl (false, 25), .inl (false, 12), .inr (.inr (8, [some 62, none, some 63, some 64, some 65, some 66, some 67, none, some 68, none, none, none, none, none, none, none, some 69, some 70, some 71, some 72, some 73, none, none, some 74, some 75, none])), .inl (false, 1708), .inl (true, 2)],
  [.inl (false, 8), .inl (false, 8), .inl (false, 320), .inl (false, 40), .inl (false, 140), .inl (false, 5), .inl (false, 5), .inl (false, 5)],
  [.inl (false, 5), .inl (false, 25), .inl (false, 1206), .inl (false, 16)]]
def shp (r : Nat) : Option SH := match nth shR (r / 8) with
  | some l => nth l (r % 8)
  | none => none
def wr (M : MT) (p k : Nat) (v : Int32) : MT := fun q i => if q = p then (if i = k then v else M q i) else M q i
def cp (M : MT) (p0 p1 sp dp n : Nat) : MT := fun q i => if q = p1 then va_cpy (M p0) (M p1) sp dp n i else M q i
def rem32 (x y : Int32) : Int32 := x - x / y * y
def rem64 (x y : Int64) : Int64 := x - x / y * y
def abs32 (x : Int32) : Int32 := if 0 ≤ x then x else 0 - x
def ldI (L : LT) (i : Nat) (f : Int32 → Prop) : Prop := match nth L i with
  | some (some (.int x)) => f x
  | _ => False
def ldJ (L : LT) (i : Nat) (f : Int64 → Prop) : Prop := match nth L i with
  | some (some (.long x)) => f x
  | _ => False
def ldA (L : LT) (i : Nat) (f : Value → Prop) : Prop := match nth L i with
  | some (some (.ref x)) => f (.ref x)
  | some (some (.float x)) => f (.float x)
  | _ => False
def setK : LT → Nat → Option Value → (LT → Prop) → Prop
  | [], _, _, _ => False
  | _ :: l, 0, v, f => f (v :: l)
  | a :: l, n + 1, v, f => setK l n v (fun l' => f (a :: l'))
def stL (L : LT) (i : Nat) (v : Value) (f : LT → Prop) : Prop := match okS L i with
  | true => setK L i (some v) f
  | false => False
def stJ (L : LT) (i : Nat) (v : Int64) (f : LT → Prop) : Prop := match okS L i with
  | true => setK L i (some (.long v)) (fun l => setK l (i + 1) none f)
  | false => False
def pI (S : List Value) (f : Int32 → List Value → Prop) : Prop := match S with
  | .int x :: S => f x S
  | _ => False
def pJ (S : List Value) (f : Int64 → List Value → Prop) : Prop := match S with
  | .long x :: S => f x S
  | _ => False
def pA (S : List Value) (f : Nat → List Value → Prop) : Prop := match S with
  | .ref x :: S => f x S
  | _ => False
def pII (S : List Value) (f : Int32 → Int32 → List Value → Prop) : Prop := match S with
  | .int y :: .int x :: S => f y x S
  | _ => False
def pJJ (S : List Value) (f : Int64 → Int64 → List Value → Prop) : Prop := match S with
  | .long y :: .long x :: S => f y x S
  | _ => False
def popN : Nat → List Value → List Value → (List Value → List Value → Prop) → Prop
  | 0, S, acc, f => f acc S
  | _ + 1, [], _, _ => False
  | n + 1, v :: S, acc, f => popN n S (v :: acc) f
def cats : List Value → Nat
  | [] => 0
  | v :: S => v.category + cats S
def retK (v : Option Value) (S : List Value) (f : List Value → Prop) : Prop := match v with
  | some x => f (x :: S)
  | none => f S
def isO (v : Value) (ci : Nat) : Bool := match v with
  | .ref r => (match shp r with
    | some (.inr (.inr (c, _))) => Nat.beq c ci
    | _ => false)
  | _ => false
def callK (C : CC) (d m : Nat) (virt : Bool) (S : List Value) (M : MT) (k : List Value → MT → Prop) : Prop := match nth mil m with
  | some (_, _, _, _, n, ci, st) => (match st == virt with
    | true => False
    | false => (match virt with
      | true => popN (n + 1) S [] (fun As S' => match As with
        | a :: As' => (match isO a ci && Nat.ble (cats S') 8 with
          | true => 0 < d ∧ C (d - 1) m (a :: As') M (fun v M' => retK v S' (fun S'' => k S'' M'))
          | false => False)
        | [] => False)
      | false => popN n S [] (fun As S' => match Nat.ble (cats S') 8 with
        | true => 0 < d ∧ C (d - 1) m As M (fun v M' => retK v S' (fun S'' => k S'' M'))
        | false => False)))
  | none => False
def aldK (sc : ST) (S : List Value) (M : MT) (k : List Value → Prop) : Prop := match S with
  | .int x :: .ref r :: S => (match shp r with
    | some (.inl (false, n)) => ∃ j : Nat, x = nI j ∧ j < n ∧ k (.int (M r j) :: S)
    | _ => False)
  | .int x :: .float q :: S => (match q.toNat with
    | 0 => (match sc with
      | some (n, g) => ∃ j : Nat, x = nI j ∧ j < n ∧ k (.int (g j) :: S)
      | none => False)
    | 1 => ∃ j : Nat, x = nI j ∧ j < 6 ∧ k (.int (sizeB j) :: S)
    | 2 => ∃ j : Nat, x = nI j ∧ j < 6 ∧ k (.int (markB j) :: S)
    | _ => False)
  | _ => False
def alenK (sc : ST) (S : List Value) (k : List Value → Prop) : Prop := match S with
  | .float q :: S => (match q.toNat with
    | 0 => (match sc with
      | some (n, _) => k (.int (nI n) :: S)
      | none => False)
    | _ => False)
  | _ => False
def astK (S : List Value) (M : MT) (k : List Value → MT → Prop) : Prop := match S with
  | .int v :: .int x :: .ref r :: S => (match shp r with
    | some (.inl (false, n)) => ∃ j : Nat, x = nI j ∧ j < n ∧ k S (wr M r j v)
    | _ => False)
  | _ => False
def zldK (S : List Value) (M : MT) (k : List Value → Prop) : Prop := match S with
  | .int x :: .ref r :: S => (match shp r with
    | some (.inl (true, n)) => ∃ j : Nat, x = nI j ∧ j < n ∧ k (.int (M r j) :: S)
    | _ => False)
  | _ => False
def zstK (S : List Value) (M : MT) (k : List Value → MT → Prop) : Prop := match S with
  | .int v :: .int x :: .ref r :: S => (match shp r with
    | some (.inl (true, n)) => ∃ j : Nat, x = nI j ∧ j < n ∧ k S (wr M r j (vp_nar .boolean v))
    | _ => False)
  | _ => False
def qldK (S : List Value) (k : List Value → Prop) : Prop := match S with
  | .int x :: .ref r :: S => (match shp r with
    | some (.inr (.inl l)) => ∃ j c : Nat, x = nI j ∧ nth l j = some c ∧ k (.ref c :: S)
    | _ => False)
  | _ => False
def getK (a b : Nat) (S : List Value) (M : MT) (k : List Value → Prop) : Prop := match S with
  | .ref r :: S => (match shp r with
    | some (.inr (.inr (ci, fs))) => (match Nat.beq ci a with
      | true => (match nth fs b with
        | some none => k (.int (M r b) :: S)
        | some (some c) => k (.ref c :: S)
        | none => False)
      | false => False)
    | _ => False)
  | _ => False
def putK (a b : Nat) (S : List Value) (M : MT) (k : List Value → MT → Prop) : Prop := match S with
  | .int x :: .ref r :: S => (match shp r with
    | some (.inr (.inr (ci, fs))) => (match Nat.beq ci a with
      | true => (match nth fs b with
        | some none => k S (wr M r b x)
        | _ => False)
      | false => False)
    | _ => False)
  | _ => False
def cpyK (d : Nat) (S : List Value) (M : MT) (k : List Value → MT → Prop) : Prop := match S with
  | .int xn :: .int xd :: .ref i1 :: .int xs :: .ref i0 :: S => (match shp i0, shp i1, Nat.ble (cats S) 8 with
    | some (.inl (false, n0)), some (.inl (false, n1)), true => 0 < d ∧ ∃ sp dp n : Nat, xs = nI sp ∧ xd = nI dp ∧ xn = nI n ∧ sp + n ≤ n0 ∧ dp + n ≤ n1 ∧ k S (cp M i0 i1 sp dp n)
    | _, _, _ => False)
  | _ => False
def absK (d : Nat) (S : List Value) (k : List Value → Prop) : Prop := match S with
  | .int x :: S => (match Nat.ble (cats S) 8 with
    | true => 0 < d ∧ k (.int (abs32 x) :: S)
    | false => False)
  | _ => False
def dupK (S : List Value) (k : List Value → Prop) : Prop := match S with
  | .int x :: S => k (.int x :: .int x :: S)
  | .ref x :: S => k (.ref x :: .ref x :: S)
  | _ => False
def dup2K (S : List Value) (k : List Value → Prop) : Prop := match S with
  | .int x :: .ref y :: S => k (.int x :: .ref y :: .int x :: .ref y :: S)
  | _ => False
def if0 (c : ClassFile.Cond) (x : Int32) : Prop := match c with
  | .eq => x = 0
  | .ne => ¬ x = 0
  | .lt => x < 0
  | .ge => 0 ≤ x
  | .gt => 0 < x
  | .le => x ≤ 0
def if2 (c : ClassFile.Cond) (x y : Int32) : Prop := match c with
  | .eq => x = y
  | .ne => ¬ x = y
  | .lt => x < y
  | .ge => y ≤ x
  | .gt => y < x
  | .le => x ≤ y
/-- a branch: what holds where it jumps, where it doesn't -/
def brK (c : ClassFile.Cond) (x y : Int32) (kt kf : Prop) : Prop := match c with
  | .eq => (x = y → kt) ∧ (¬ x = y → kf)
  | .ne => (¬ x = y → kt) ∧ (x = y → kf)
  | .lt => (x < y → kt) ∧ (¬ x < y → kf)
  | .ge => (y ≤ x → kt) ∧ (¬ y ≤ x → kf)
  | .gt => (y < x → kt) ∧ (¬ y < x → kf)
  | .le => (x ≤ y → kt) ∧ (¬ x ≤ y → kf)
def swK (f : Nat → Prop) (pc : Nat) (x : Int32) : List Int → Int → Prop
  | [], _ => True
  | off :: t, lo => (x.toInt = lo → f ((pc : Int) + off).toNat) ∧ swK f pc x t (lo + 1)
def lkK (f : Nat → Prop) (pc : Nat) (x : Int32) : List (Int × Int) → Prop
  | [] => True
  | (key, off) :: t => (x.toInt = key → f ((pc : Int) + off).toNat) ∧ lkK f pc x t
def retI (a : Nat) (K : KT) (S : List Value) (M : MT) : Prop := match S with
  | [.int x] => (match a with
    | 0 => K (some (.int x)) M
    | _ + 1 => (x = 0 ∨ x = 1) ∧ K (some (.int x)) M)
  | _ => False
def retA (K : KT) (S : List Value) (M : MT) : Prop := match S with
  | [.ref x] => K (some (.ref x)) M
  | _ => False
def retV (K : KT) (S : List Value) (M : MT) : Prop := match S with
  | [] => K none M
  | _ => False
def stp (sc : ST) (C : CC) (X : XT) (K : KT) (d : Nat) (e : ET) (L : LT) (S : List Value) (M : MT) (k : LT → List Value → MT → Prop) : Prop := match e with
  | (ins, _, a, b, v) => match ins with
  | .aload_n n => ldA L n.val (fun u => k L (u :: S) M)
  | .aload i => ldA L i (fun u => k L (u :: S) M)
  | .iload_n n => ldI L n.val (fun x => k L (.int x :: S) M)
  | .iload i => ldI L i (fun x => k L (.int x :: S) M)
  | .lload_n n => ldJ L n.val (fun x => k L (.long x :: S) M)
  | .lload i => ldJ L i (fun x => k L (.long x :: S) M)
  | .istore_n n => pI S (fun x S => stL L n.val (.int x) (fun L => k L S M))
  | .istore i => pI S (fun x S => stL L i (.int x) (fun L => k L S M))
  | .astore_n n => pA S (fun x S => stL L n.val (.ref x) (fun L => k L S M))
  | .lstore i => pJ S (fun x S => stJ L i x (fun L => k L S M))
  | .iinc i _ => ldI L i (fun x => stL L i (.int (x + v)) (fun L => k L S M))
  | .iconst _ => k L (.int v :: S) M
  | .bipush _ => k L (.int v :: S) M
  | .sipush _ => k L (.int v :: S) M
  | .ldc _ => k L (.int v :: S) M
  | .ldc_w _ => k L (.int v :: S) M
  | .lconst _ => k L (.long v.toInt64 :: S) M
  | .ldc2_w _ => k L (.long v.toInt64 :: S) M
  | .iadd => pII S (fun y x S => k L (.int (x + y) :: S) M)
  | .isub => pII S (fun y x S => k L (.int (x - y) :: S) M)
  | .imul => pII S (fun y x S => k L (.int (x * y) :: S) M)
  | .iand => pII S (fun y x S => k L (.int (x &&& y) :: S) M)
  | .ior => pII S (fun y x S => k L (.int (x ||| y) :: S) M)
  | .ixor => pII S (fun y x S => k L (.int (x ^^^ y) :: S) M)
  | .ishl => pII S (fun y x S => k L (.int (x <<< (y &&& 31)) :: S) M)
  | .ishr => pII S (fun y x S => k L (.int (x >>> (y &&& 31)) :: S) M)
  | .idiv => pII S (fun y x S => ¬ y = 0 ∧ k L (.int (x / y) :: S) M)
  | .irem => pII S (fun y x S => ¬ y = 0 ∧ k L (.int (rem32 x y) :: S) M)
  | .ineg => pI S (fun x S => k L (.int (-x) :: S) M)
  | .ladd => pJJ S (fun y x S => k L (.long (x + y) :: S) M)
  | .lmul => pJJ S (fun y x S => k L (.long (x * y) :: S) M)
  | .lrem => pJJ S (fun y x S => ¬ y = 0 ∧ k L (.long (rem64 x y) :: S) M)
  | .lcmp => pJJ S (fun y x S => k L (.int (lg_cmp x y) :: S) M)
  | .i2l => pI S (fun x S => k L (.long x.toInt64 :: S) M)
  | .l2i => pJ S (fun x S => k L (.int x.toInt32 :: S) M)
  | .i2b => pI S (fun x S => k L (.int x.toInt8.toInt32 :: S) M)
  | .i2s => pI S (fun x S => k L (.int x.toInt16.toInt32 :: S) M)
  | .dup => dupK S (fun S => k L S M)
  | .dup2 => dup2K S (fun S => k L S M)
  | .getfield _ => getK a b S M (fun S => k L S M)
  | .putfield _ => putK a b S M (fun S M => k L S M)
  | .iaload => aldK sc S M (fun S => k L S M)
  | .iastore => astK S M (fun S M => k L S M)
  | .baload => zldK S M (fun S => k L S M)
  | .bastore => zstK S M (fun S M => k L S M)
  | .aaload => qldK S (fun S => k L S M)
  | .arraylength => alenK sc S (fun S => k L S M)
  | .getstatic _ => (match a with
    | 1 => k L (.float 1 :: S) M
    | 2 => k L (.float 2 :: S) M
    | _ => False)
  | .ifCond c _ => pI S (fun x S => brK c x 0 (X a L S M) (k L S M))
  | .if_icmp c _ => pII S (fun y x S => brK c x y (X a L S M) (k L S M))
  | .goto _ => k L S M
  | .tableswitch dflt lo hi offs => pI S (fun x S => ((x.toInt < lo ∨ hi < x.toInt) → X ((a : Int) + dflt).toNat L S M) ∧ swK (fun t => X t L S M) a x offs.toList lo)
  | .lookupswitch dflt ps => pI S (fun x S => ((∀ q ∈ ps.toList, ¬ x.toInt = q.1) → X ((a : Int) + dflt).toNat L S M) ∧ lkK (fun t => X t L S M) a x ps.toList)
  | .invokevirtual _ => callK C d a true S M (fun S M => k L S M)
  | .invokestatic _ => (match Nat.ble 1000 a with
    | true => (match Nat.beq a 1000 with
      | true => cpyK d S M (fun S M => k L S M)
      | false => absK d S (fun S => k L S M))
    | false => callK C d a false S M (fun S M => k L S M))
  | .ireturn => retI a K S M
  | .areturn => retA K S M
  | .return_ => retV K S M
  | _ => False
/-- where the road goes on: behind a goto at its target -/
def nxt (pc : Nat) (e : ET) : Nat := match e with
  | (ins, len, a, _, _) => match ins with
    | .goto _ => a
    | _ => pc + len
/-- a block of instructions, up to a place z -/
def WPB (sc : ST) (C : CC) (X : XT) (K : KT) (d z : Nat) : List ET → LT → List Value → MT → Prop
  | [], L, S, M => X z L S M
  | e :: r, L, S, M => stp sc C X K d e L S M (fun L S M => WPB sc C X K d z r L S M)
def initL (As : List Value) (nL : Nat) : LT := aL As ++ List.replicate (nL - (aL As).length) none
abbrev BL : Type := List (Nat × Nat × List ET)
/-- what is closed under the blocks of a method -/
def CloX (C : CC) (K : KT) (d : Nat) (bs : BL) (X : XT) : Prop := ∀ b ∈ bs, ∀ (L : LT) (S : List Value) (M : MT), WPB none C X K d b.2.1 b.2.2 L S M → X b.1 L S M
/-! THE PURE MACHINE IS SOUND -/
def flds (m : Nat → Int32) : Nat → List (Option Nat) → List Value
  | _, [] => []
  | b, none :: t => .int (m b) :: flds m (b + 1) t
  | b, some c :: t => .ref c :: flds m (b + 1) t
theorem flds_get (m : Nat → Int32) : ∀ (fs : List (Option Nat)) (b k : Nat), (flds m b fs)[k]? = match fs[k]? with
    | some none => some (.int (m (b + k)))
    | some (some c) => some (.ref c)
    | none => none := by
  intro fs
  induction fs with
  | nil => intro b k; rfl
  | cons a t ih =>
    intro b k
    cases k with
    | zero => cases a <;> rfl
    | succ k =>
      have := ih (b + 1) k
      rw [Nat.add_right_comm] at this
      cases a <;> (simp only [flds, List.getElem?_cons_succ]; exact this)
theorem flds_up (m : Nat → Int32) (x : Int32) : ∀ (fs : List (Option Nat)) (b k : Nat), k < b → flds (upd m k x) b fs = flds m b fs := by
  intro fs
  induction fs with
  | nil => intro b k _; rfl
  | cons a t ih =>
    intro b k h
    have hb : b ≠ k := by omega
    cases a <;> simp only [flds, ih (b + 1) k (by omega), upd, if_neg hb]
theorem flds_set (m : Nat → Int32) (x : Int32) : ∀ (fs : List (Option Nat)) (b k : Nat), fs[k]? = some none → (flds m b fs).set k (.int x) = flds (upd m (b + k) x) b fs := by
  intro fs
  induction fs with
  | nil => intro b k h; cases h
  | cons a t ih =>
    intro b k h
    cases k with
    | zero =>
      rw [List.getElem?_cons_zero] at h
      cases h
      simp only [flds, List.set_cons_zero, Nat.add_zero, flds_up m x t (b + 1) b (by omega)]
      simp [upd]
    | succ k =>
      rw [List.getElem?_cons_succ] at h
      have := ih (b + 1) k h
      rw [Nat.add_right_comm, Nat.add_assoc] at this
      have hb : b ≠ b + (k + 1) := by omega
      cases a <;> simp only [flds, List.set_cons_succ, this, upd, if_neg hb]
def cellS (s : Option SH) (m : Nat → Int32) : CA := match s with
  | some (.inl (false, n)) => ai n m
  | some (.inl (true, n)) => ab n m
  | some (.inr (.inl l)) => aq l.length (nth l)
  | some (.inr (.inr (ci, fs))) => ob ci (flds m 0 fs)
  | none => ai 0 m
def cellM (M : MT) (i : Nat) : CA := cellS (shp i) (M i)
def wc (M : MT) : WA := (List.range 76).map (fun i => (i, cellM M i))
def fz : Nat → CA := fun _ => ai 0 (fun _ => 0)
theorem wc_get {M : MT} {i : Nat} (h : i < 76) : (wc M)[i]? = some (i, cellM M i) := by simp [wc, h]
theorem wc_set {M M' : MT} {i : Nat} {c : CA} (h : i < 76) (hc : cellM M' i = c) (ho : ∀ q, q ≠ i → M' q = M q) : (wc M).set i (i, c) = wc M' := by
  apply List.ext_getElem?
  intro j
  by_cases hj : j < 76
  · rw [wc_get hj]
    by_cases e : i = j
    · subst e
      rw [List.getElem?_set_self (by simp [wc, h]), hc]
    · rw [List.getElem?_set_ne e, wc_get hj]
      simp only [cellM, ho j (Ne.symm e)]
  · rw [List.getElem?_eq_none (by simp [wc]; omega), List.getElem?_eq_none (by simp [wc]; omega)]
def shB (r : Nat) : Bool := match shp r with
  | some (.inl (_, n)) => Nat.blt r 76 && Nat.blt n 2147483648
  | some (.inr (.inl l)) => Nat.blt r 76 && Nat.blt l.length 2147483648
  | some (.inr (.inr _)) => Nat.blt r 76
  | none => true
theorem shp_all : ∀ r, r < 80 → shB r = true := by decide +kernel
theorem shp_out {r : Nat} (h : 80 ≤ r) : shp r = none := by
  have e : nth shR (r / 8) = none := by
    rw [nth_eq]
    apply List.getElem?_eq_none
    show 10 ≤ r / 8
    omega
  simp only [shp, e]
theorem shp_lt {r : Nat} {s : SH} (h : shp r = some s) : r < 76 := by
  by_cases hr : r < 80
  · have := shp_all r hr
    unfold shB at this
    rw [h] at this
    rcases s with ⟨b, n⟩ | l | ⟨ci, fs⟩
    · exact Nat.blt_eq.mp (Bool.and_eq_true_iff.mp this).1
    · exact Nat.blt_eq.mp (Bool.and_eq_true_iff.mp this).1
    · exact Nat.blt_eq.mp this
  · rw [shp_out (by omega)] at h; cases h
theorem shp_small {r n : Nat} {b : Bool} (h : shp r = some (.inl (b, n))) : n < 2147483648 := by
  have hr := shp_lt h
  have := shp_all r (by omega)
  unfold shB at this
  rw [h] at this
  exact Nat.blt_eq.mp (Bool.and_eq_true_iff.mp this).2
theorem shp_smallq {r : Nat} {l : List Nat} (h : shp r = some (.inr (.inl l))) : l.length < 2147483648 := by
  have hr := shp_lt h
  have := shp_all r (by omega)
  unfold shB at this
  rw [h] at this
  exact Nat.blt_eq.mp (Bool.and_eq_true_iff.mp this).2
theorem wr_self (M : MT) (p k : Nat) (v : Int32) : wr M p k v p = upd (M p) k v := by
  funext i
  simp [wr, upd]
theorem wr_off {M : MT} {p k : Nat} {v : Int32} {q : Nat} (h : q ≠ p) : wr M p k v q = M q := by
  funext i
  simp [wr, h]
theorem cp_self (M : MT) (p0 p sp dp n : Nat) : cp M p0 p sp dp n p = va_cpy (M p0) (M p) sp dp n := by
  funext i
  simp [cp]
theorem cp_off {M : MT} {p0 p sp dp n q : Nat} (h : q ≠ p) : cp M p0 p sp dp n q = M q := by
  funext i
  simp [cp, h]
/-! the judgement of the machine over the pure picture -/
def XM (Γ : GT) (a : Nat × Nat × Nat) : XT := fun pc L S M => XX Γ a pc L S (wc M) fz
def RM (B : BT) (M : MT) (H : Heap) : Prop := Rp B (wc M) fz 76 H
def PM (B : BT) (As : List Value) (M : MT) : Array Value → State → Prop := va_Pc (As.map (cz B)) (fun U => RM B M U.heap ∧ Ev B U ∧ B.1 ≤ U.heap.size)
def QM (B : BT) (K : KT) : Array Value → State → Outcome → State → Prop := fun _ st oc t => (∃ (v : Option Value) (M' : MT), oc = .returned (v.map (cz B)) ∧ K v M' ∧ RM B M' t.heap) ∧ va_F (AA B) st t
def CTm (l : Launch) (B : BT) : CC := fun d m As M K => match nth mil m with
  | some (y, cc, nL, ret, _) => Met l y (.code y cc nL ret :: gw) (rmD d 0 0) (PM B As M) (QM B K) 0 0 (AA B)
  | none => False
/-- what a method's end needs -/
def RTm : GT → Option FieldType → Nat × Nat × Nat → KT → Prop
  | (_, _, _, _, s, _, args, below, meth, _, Z, B), ret, a, K =>
    meth.sig.returnType = ret ∧ meth.locks = false ∧ Z = MQ below (QM B K) args s a.1 a.2.1 (AA B) ∧ a.2.2 = 76
def ScOK : GT → ST → Prop
  | (_, _, _, _, s, _, _, _, _, _, _, B), sc => match sc with
    | none => True
    | some (n, g) => va_X (B.2.2.1 0) n g s s.heap ∧ B.2.2.1 0 < s.heap.size ∧ ¬ AA B (B.2.2.1 0)
/-! what the instruction's operands mean -/
def AUX (oi : Nat) (ret : Option FieldType) (pc : Nat) (e : ET) : Prop := match e with
  | (ins, len, a, b, v) => match ins with
  | .aload _ => len = 2
  | .iload _ => len = 2
  | .lload _ => len = 2
  | .istore _ => len = 2
  | .lstore _ => len = 2
  | .iinc _ n => len = 3 ∧ Int32.ofInt n = v
  | .iconst n => len = 1 ∧ Int32.ofInt n = v
  | .bipush n => len = 2 ∧ (Int8.ofInt n).toInt32 = v
  | .sipush n => len = 3 ∧ (Int16.ofInt n).toInt32 = v
  | .ldc ix => len = 2 ∧ (ix, v) ∈ CL oi
  | .ldc_w ix => len = 3 ∧ (ix, v) ∈ CL oi
  | .lconst n => len = 1 ∧ Int64.ofNat n.val = v.toInt64
  | .ldc2_w ix => len = 3 ∧ (ix, v) ∈ JL oi
  | .getfield ix => len = 3 ∧ b < 32 ∧ (ix, 32 * a + b) ∈ FL oi
  | .putfield ix => len = 3 ∧ b < 32 ∧ (ix, 32 * a + b) ∈ PL oi
  | .getstatic ix => len = 3 ∧ oi = 1 ∧ ((a = 1 ∧ ix = 57) ∨ (a = 2 ∧ ix = 60))
  | .ifCond _ off => len = 3 ∧ (pc : Int) + off = (a : Int)
  | .if_icmp _ off => len = 3 ∧ (pc : Int) + off = (a : Int)
  | .goto off => len = 3 ∧ (pc : Int) + off = (a : Int)
  | .tableswitch dflt lo hi offs => a = pc ∧ (∀ o ∈ dflt :: offs.toList, 0 ≤ (pc : Int) + o) ∧ lo + offs.toList.length = hi + 1 ∧ -2147483648 ≤ lo ∧ hi < 2147483648
  | .lookupswitch dflt ps => a = pc ∧ (∀ o ∈ dflt :: ps.toList.map (fun q : Int × Int => q.2), 0 ≤ (pc : Int) + o) ∧ (ps.toList.zip (ps.toList.drop 1)).all (fun (z, next) => z.1 < next.1) = true
  | .invokevirtual ix => len = 3 ∧ (ix, a) ∈ VL oi
  | .invokestatic ix => len = 3 ∧ ((a < 1000 ∧ (ix, a) ∈ SL oi) ∨ (a = 1000 ∧ ix ∈ YL oi) ∨ (a = 1001 ∧ ix ∈ AL oi))
  | .ireturn => len = 1 ∧ ((a = 0 ∧ ret = some .int) ∨ (a = 1 ∧ ret = some .boolean))
  | .areturn => len = 1 ∧ ret = some (.object RX2)
  | .return_ => len = 1 ∧ ret = none
  | _ => len = 1
def AUXb (oi : Nat) (ret : Option FieldType) (pc : Nat) (e : ET) : Bool := match e with
  | (ins, len, a, b, v) => match ins with
  | .aload _ => decide (len = 2)
  | .iload _ => decide (len = 2)
  | .lload _ => decide (len = 2)
  | .istore _ => decide (len = 2)
  | .lstore _ => decide (len = 2)
  | .iinc _ n => decide (len = 3 ∧ Int32.ofInt n = v)
  | .iconst n => decide (len = 1 ∧ Int32.ofInt n = v)
  | .bipush n => decide (len = 2 ∧ (Int8.ofInt n).toInt32 = v)
  | .sipush n => decide (len = 3 ∧ (Int16.ofInt n).toInt32 = v)
  | .ldc ix => decide (len = 2 ∧ (ix, v) ∈ CL oi)
  | .ldc_w ix => decide (len = 3 ∧ (ix, v) ∈ CL oi)
  | .lconst n => decide (len = 1 ∧ Int64.ofNat n.val = v.toInt64)
  | .ldc2_w ix => decide (len = 3 ∧ (ix, v) ∈ JL oi)
  | .getfield ix => decide (len = 3 ∧ b < 32 ∧ (ix, 32 * a + b) ∈ FL oi)
  | .putfield ix => decide (len = 3 ∧ b < 32 ∧ (ix, 32 * a + b) ∈ PL oi)
  | .getstatic ix => decide (len = 3 ∧ oi = 1 ∧ ((a = 1 ∧ ix = 57) ∨ (a = 2 ∧ ix = 60)))
  | .ifCond _ off => decide (len = 3 ∧ (pc : Int) + off = (a : Int))
  | .if_icmp _ off => decide (len = 3 ∧ (pc : Int) + off = (a : Int))
  | .goto off => decide (len = 3 ∧ (pc : Int) + off = (a : Int))
  | .tableswitch dflt lo hi offs => decide (a = pc ∧ (∀ o ∈ dflt :: offs.toList, 0 ≤ (pc : Int) + o) ∧ lo + offs.toList.length = hi + 1 ∧ -2147483648 ≤ lo ∧ hi < 2147483648)
  | .lookupswitch dflt ps => decide (a = pc ∧ (∀ o ∈ dflt :: ps.toList.map (fun q : Int × Int => q.2), 0 ≤ (pc : Int) + o) ∧ (ps.toList.zip (ps.toList.drop 1)).all (fun (z, next) => z.1 < next.1) = true)
  | .invokevirtual ix => decide (len = 3 ∧ (ix, a) ∈ VL oi)
  | .invokestatic ix => decide (len = 3 ∧ ((a < 1000 ∧ (ix, a) ∈ SL oi) ∨ (a = 1000 ∧ ix ∈ YL oi) ∨ (a = 1001 ∧ ix ∈ AL oi)))
  | .ireturn => decide (len = 1 ∧ ((a = 0 ∧ ret = some .int) ∨ (a = 1 ∧ ret = some .boolean)))
  | .areturn => decide (len = 1 ∧ ret = some (.object RX2))
  | .return_ => decide (len = 1 ∧ ret = none)
  | _ => decide (len = 1)
theorem AUXb_ok {oi : Nat} {ret : Option FieldType} {pc : Nat} {e : ET} (h : AUXb oi ret pc e = true) : AUX oi ret pc e := by
  obtain ⟨ins, len, av, bv, v⟩ := e
  cases ins <;> exact (have h2 := @of_decide_eq_true _ _ h; h2)
/-- a block whose instructions are those of the code -/
def chkB (oi : Nat) (cc : ByteArray) (ret : Option FieldType) (z : Nat) : Nat → List ET → Prop
  | pc, [] => pc = z
  | pc, e :: r => decode cc pc = .ok (e.1, e.2.1) ∧ AUX oi ret pc e ∧ chkB oi cc ret z (nxt pc e) r
def chkb (oi : Nat) (cc : ByteArray) (ret : Option FieldType) (z : Nat) : Nat → List ET → Bool
  | pc, [] => Nat.beq pc z
  | pc, e :: r => decide (decode cc pc = .ok (e.1, e.2.1)) && AUXb oi ret pc e && chkb oi cc ret z (nxt pc e) r
theorem chkb_ok {oi : Nat} {cc : ByteArray} {ret : Option FieldType} {z : Nat} : ∀ {b : List ET} {pc : Nat}, chkb oi cc ret z pc b = true → chkB oi cc ret z pc b := by
  intro b
  induction b with
  | nil => intro pc h; exact Nat.eq_of_beq_eq_true h
  | cons e r ih =>
    intro pc h
    obtain ⟨h1, h3⟩ := Bool.and_eq_true_iff.mp (show (_ && _) = true from h)
    obtain ⟨h1, h2⟩ := Bool.and_eq_true_iff.mp h1
    exact ⟨of_decide_eq_true h1, AUXb_ok h2, ih h3⟩
theorem chkb_all {oi : Nat} {cc : ByteArray} {ret : Option FieldType} {bs : BL} (h : bs.all (fun b => chkb oi cc ret b.2.1 b.1 b.2.2) = true) : ∀ b ∈ bs, chkB oi cc ret b.2.1 b.1 b.2.2 := fun b hb => chkb_ok (List.all_eq_true.mp h b hb)
