/-! THE JUDGEMENT: from a state that shows the pure picture (locals L, stack S, cells w over f) the machine comes to the end Z. -/
abbrev GT : Type := Program × Launch × Env × Room × State × MethodId × Array Value × List Frame × Method × Code × (State → Prop) × BT
def XX : GT → Nat × Nat × Nat → Nat → List (Option Value) → List Value → WA → (Nat → CA) → Prop
  | (p, l, e, R, s, m, args, below, meth, c, Z, B), a, pc, L, S, w, f =>
    ∀ (H : Heap) (locs : List Loc) (ls : Array Slot), Rp B w f a.2.2 H → va_S (AA B) s.heap H locs → lL B ls c.maxLocals L → a.1 ≤ R.cells → a.2.1 ≤ R.slots →
      W p l e R s m args below meth c H locs a.1 a.2.1 Z (F0 m pc ls (S.map (cz B)))
def gw : List Cond := lw_tbl.filter goodWord
theorem gw_in {w : Cond} (h : w ∈ lw_tbl) (hg : goodWord w = true) : w ∈ gw := List.mem_filter.mpr ⟨h, hg⟩
theorem gw_at {w : Cond} (i : Nat) (h : lw_tbl[i]? = some w) (hg : goodWord w = true) : w ∈ gw := gw_in (List.mem_of_getElem? h) hg
theorem gw_good : GoodIn gw gw := fun w h => ⟨h, good_of_word (List.mem_filter.mp h).2⟩
theorem gw_cons {c : Cond} (h : c ∈ gw) : GoodIn gw (c :: gw) := fun w hw => by
  rcases List.mem_cons.mp hw with rfl | hw
  · exact gw_good _ h
  · exact gw_good _ hw
def GK : GT → ByteArray → String → Nat → Prop
  | (p, _, _, R, s, m, args, _, _, c, _, B), cc, own, d =>
    p.tables.exec = Jvm.exec ∧ c.code = cc ∧ s.vm.findClass own = some m.cls ∧ (∀ w ∈ gw, w.before args s = true) ∧ Ev B s ∧ B.1 ≤ s.heap.size ∧ d ≤ R.frames ∧ 64 * d ≤ R.locals
def gl : GT → Launch
  | (_, l, _) => l
def gB : GT → BT
  | (_, _, _, _, _, _, _, _, _, _, _, B) => B
def rmD (d mc ms : Nat) : Room := { frames := d, cells := mc, slots := ms, locals := 64 * d }
def QO (B : BT) (f : Nat → CA) (z' : Nat) (v0 : Option Value) (w0 : WA) : Array Value → State → Outcome → State → Prop := fun _ st oc t =>
  (oc = .returned (v0.map (cz B)) ∧ Rp B w0 f z' t.heap) ∧ va_F (AA B) st t
def PO (B : BT) (As : List Value) (z : Nat) (w : WA) (f : Nat → CA) : Array Value → State → Prop := va_Pc (As.map (cz B)) (fun U => Rp B w f z U.heap ∧ Ev B U ∧ B.1 ≤ U.heap.size)
/-- the contract of a method at arguments As and cells w (over any f): it answers v0, the cells are w0 then -/
def Ok (l : Launch) (B : BT) (d : Nat) (y : MethodName) (cc : ByteArray) (nL : Nat) (ret : Option FieldType) (As : List Value) (z : Nat) (w : WA) (f : Nat → CA) (mc ms z' : Nat) (v0 : Option Value) (w0 : WA) : Prop :=
  Met l y (.code y cc nL ret :: gw) (rmD d mc ms) (PO B As z w f) (QO B f z' v0 w0) mc ms (AA B)
/-- what a method's end needs -/
def RT : GT → Option FieldType → Nat × Nat × Nat → (Nat → CA) → Option Value → WA → Prop
  | (_, _, _, _, s, _, args, below, meth, _, Z, B), ret, a, f, v0, w0 =>
    meth.sig.returnType = ret ∧ meth.locks = false ∧ Z = MQ below (QO B f a.2.2 v0 w0) args s a.1 a.2.1 (AA B)
def NM : GT → String → Prop
  | (_, _, _, _, _, _, _, _, meth, _, _, _), n => meth.name = n
def SZ : GT → Nat → Prop
  | (_, _, _, _, s, _, _, _, _, _, _, B), z0 => s.heap.size = B.1 + z0
def RC : GT → Nat → Nat → Prop
  | (_, _, _, R, _, _, _, _, _, _, _, _), c, k => R.cells = c ∧ R.slots = k
def MI (y : MethodName) (cc : ByteArray) (nL : Nat) (ret : Option FieldType) (n : Nat) : Prop :=
  Cond.code y cc nL ret ∈ gw ∧ Cond.initialized y.cls ∈ gw ∧ plainName y.cls = true ∧ (y.cls ≠ "java/lang/invoke/MethodHandle" ∧ y.cls ≠ "java/lang/invoke/VarHandle" ∧ (parseMethodDescriptor y.desc).map (fun d => d.parameters.length) = some n) ∧ nL ≤ 45
def FG (own : String) (ix ci k : Nat) : Prop := ∃ (C : String) (T : u_T) (N : Nat), vwCl[ci]? = some (C, T, N) ∧ k < N ∧ Cond.fieldLink own ix C (T k).2.1 (T k).2.2.1 ∈ gw ∧ (∀ w ∈ u_ws C T N, w ∈ gw) ∧ (T k).1 = C
def FC (ci : Nat) : Prop := ∃ (C : String) (T : u_T) (N : Nat) (ty : Nat → FieldType), vwCl[ci]? = some (C, T, N) ∧ (∀ k, k < N → parseFieldDescriptor (T k).2.2.1 = some (ty k)) ∧ (∀ a, a < N → ∀ b, b < N → a ≠ b → (T a).2.1 ≠ (T b).2.1)
def FI (ci k : Nat) : Prop := FC ci ∧ ∃ (C : String) (T : u_T) (N : Nat), vwCl[ci]? = some (C, T, N) ∧ (T k).2.2.2 = false ∧ (T k).2.2.1 = "I"
def FR (own : String) (ci k : Nat) : Prop := FC ci ∧ ∃ (C : String) (T : u_T) (N : Nat) (ty : FieldType), vwCl[ci]? = some (C, T, N) ∧ (T k).2.2.2 = true ∧ parseFieldDescriptor (T k).2.2.1 = some ty ∧ (∀ a, narrow ty (.ref a) = .ref a) ∧ (∀ a, fits ty (.ref a) = true) ∧ C = own
theorem Ok.of {l : Launch} {B : BT} {d : Nat} {y : MethodName} {cc : ByteArray} {nL : Nat} {ret : Option FieldType} {As : List Value} {z : Nat} {w : WA} {f : Nat → CA} {mc ms z' n : Nat} {v0 : Option Value} {w0 : WA} (mi : MI y cc nL ret n) (L : List (Option Value)) (hL : L = aL As ++ List.replicate (nL - (aL As).length) none) (hn : (aL As).length ≤ nL)
    (body : ∀ Γ : GT, gl Γ = l → gB Γ = B → GK Γ cc y.cls d → RT Γ ret (mc, ms, z') f v0 w0 → NM Γ y.name → RC Γ mc ms → XX Γ (0, 0, z) 0 L [] w f) : Ok l B d y cc nL ret As z w f mc ms z' v0 w0 := by
  refine Met.ofW (cc := cc) (maxL := nL) (ret := ret) mi.2.2.1 rfl ?_
  intro p e s m args below meth c s₁ B0 hml hv
  obtain ⟨rfl, h1, h2, h3⟩ := hv
  have hts := atoms_spec (ws := .code y cc nL ret :: gw) B0.pre
  have key := body (p, l, e, rmD d mc ms, s, m, (As.map (cz B)).toArray, below, meth, c, MQ below (QO B f z' v0 w0) (As.map (cz B)).toArray s mc ms (AA B), B) rfl rfl
    ⟨B0.exec, B0.bytes, findClass_of_methodNamed B0.named, fun w hw => hts w (List.mem_cons_of_mem _ hw), h2, h3, Nat.le_refl _, Nat.le_refl _⟩ ⟨B0.returns, B0.notSynchronized, rfl⟩ (name_of_methodNamed B0.named B0.method).1 ⟨rfl, rfl⟩
  rw [lg_entry_eq]
  exact key s.heap [] _ h1 va_S.rf (by rw [hml]; exact lL.entry hL hn) (Nat.zero_le _) (Nat.zero_le _)
section RULES
variable {Γ : GT} {cc : ByteArray} {own : String} {d : Nat} {a : Nat × Nat × Nat} {pc : Nat} {L : List (Option Value)} {S : List Value} {w : WA} {f : Nat → CA}
theorem x_iadd (G : GK Γ cc own d) {x y : Int32} (hd : decode cc pc = .ok (.iadd, 1)) (k : XX Γ a (pc + 1) L (.int (x + y) :: S) w f) : XX Γ a pc L (.int y :: .int x :: S) w f := by
  obtain ⟨p, l, e, R, s, m, args, below, meth, c, Z, B⟩ := Γ
  obtain ⟨hx, hb, ho, hts, hE, hB0, hd1, hd2⟩ := G
  intro H locs ls h1 h2 h3 h4 h5
  exact lv_iadd hx hb hd  (k H locs ls h1 h2 h3 h4 h5)
theorem x_isub (G : GK Γ cc own d) {x y : Int32} (hd : decode cc pc = .ok (.isub, 1)) (k : XX Γ a (pc + 1) L (.int (x - y) :: S) w f) : XX Γ a pc L (.int y :: .int x :: S) w f := by
  obtain ⟨p, l, e, R, s, m, args, below, meth, c, Z, B⟩ := Γ
  obtain ⟨hx, hb, ho, hts, hE, hB0, hd1, hd2⟩ := G
  intro H locs ls h1 h2 h3 h4 h5
  exact lv_isub hx hb hd  (k H locs ls h1 h2 h3 h4 h5)
theorem x_imul (G : GK Γ cc own d) {x y : Int32} (hd : decode cc pc = .ok (.imul, 1)) (k : XX Γ a (pc + 1) L (.int (x * y) :: S) w f) : XX Γ a pc L (.int y :: .int x :: S) w f := by
  obtain ⟨p, l, e, R, s, m, args, below, meth, c, Z, B⟩ := Γ
  obtain ⟨hx, hb, ho, hts, hE, hB0, hd1, hd2⟩ := G
  intro H locs ls h1 h2 h3 h4 h5
  exact lv_imul hx hb hd  (k H locs ls h1 h2 h3 h4 h5)
theorem x_iand (G : GK Γ cc own d) {x y : Int32} (hd : decode cc pc = .ok (.iand, 1)) (k : XX Γ a (pc + 1) L (.int (x &&& y) :: S) w f) : XX Γ a pc L (.int y :: .int x :: S) w f := by
  obtain ⟨p, l, e, R, s, m, args, below, meth, c, Z, B⟩ := Γ
  obtain ⟨hx, hb, ho, hts, hE, hB0, hd1, hd2⟩ := G
  intro H locs ls h1 h2 h3 h4 h5
  exact lv_iand hx hb hd  (k H locs ls h1 h2 h3 h4 h5)
theorem x_ior (G : GK Γ cc own d) {x y : Int32} (hd : decode cc pc = .ok (.ior, 1)) (k : XX Γ a (pc + 1) L (.int (x ||| y) :: S) w f) : XX Γ a pc L (.int y :: .int x :: S) w f := by
  obtain ⟨p, l, e, R, s, m, args, below, meth, c, Z, B⟩ := Γ
  obtain ⟨hx, hb, ho, hts, hE, hB0, hd1, hd2⟩ := G
  intro H locs ls h1 h2 h3 h4 h5
  exact lv_ior hx hb hd  (k H locs ls h1 h2 h3 h4 h5)
theorem x_ixor (G : GK Γ cc own d) {x y : Int32} (hd : decode cc pc = .ok (.ixor, 1)) (k : XX Γ a (pc + 1) L (.int (x ^^^ y) :: S) w f) : XX Γ a pc L (.int y :: .int x :: S) w f := by
  obtain ⟨p, l, e, R, s, m, args, below, meth, c, Z, B⟩ := Γ
  obtain ⟨hx, hb, ho, hts, hE, hB0, hd1, hd2⟩ := G
  intro H locs ls h1 h2 h3 h4 h5
  exact lv_ixor hx hb hd  (k H locs ls h1 h2 h3 h4 h5)
theorem x_idiv (G : GK Γ cc own d) {x y : Int32} (hd : decode cc pc = .ok (.idiv, 1)) (hne : ¬ y = 0) (k : XX Γ a (pc + 1) L (.int (x / y) :: S) w f) : XX Γ a pc L (.int y :: .int x :: S) w f := by
  obtain ⟨p, l, e, R, s, m, args, below, meth, c, Z, B⟩ := Γ
  obtain ⟨hx, hb, ho, hts, hE, hB0, hd1, hd2⟩ := G
  intro H locs ls h1 h2 h3 h4 h5
  exact lv_idiv hx hb hd hne (k H locs ls h1 h2 h3 h4 h5)
theorem x_irem (G : GK Γ cc own d) {x y : Int32} (hd : decode cc pc = .ok (.irem, 1)) (hne : ¬ y = 0) (k : XX Γ a (pc + 1) L (.int (x - x / y * y) :: S) w f) : XX Γ a pc L (.int y :: .int x :: S) w f := by
  obtain ⟨p, l, e, R, s, m, args, below, meth, c, Z, B⟩ := Γ
  obtain ⟨hx, hb, ho, hts, hE, hB0, hd1, hd2⟩ := G
  intro H locs ls h1 h2 h3 h4 h5
  exact lv_irem hx hb hd hne (k H locs ls h1 h2 h3 h4 h5)
theorem x_ineg (G : GK Γ cc own d) {x : Int32} (hd : decode cc pc = .ok (.ineg, 1)) (k : XX Γ a (pc + 1) L (.int (-x) :: S) w f) : XX Γ a pc L (.int x :: S) w f := by
  obtain ⟨p, l, e, R, s, m, args, below, meth, c, Z, B⟩ := Γ
  obtain ⟨hx, hb, ho, hts, hE, hB0, hd1, hd2⟩ := G
  intro H locs ls h1 h2 h3 h4 h5
  exact lv_ineg hx hb hd  (k H locs ls h1 h2 h3 h4 h5)
theorem x_ladd (G : GK Γ cc own d) {x y : Int64} (hd : decode cc pc = .ok (.ladd, 1)) (k : XX Γ a (pc + 1) L (.long (x + y) :: S) w f) : XX Γ a pc L (.long y :: .long x :: S) w f := by
  obtain ⟨p, l, e, R, s, m, args, below, meth, c, Z, B⟩ := Γ
  obtain ⟨hx, hb, ho, hts, hE, hB0, hd1, hd2⟩ := G
  intro H locs ls h1 h2 h3 h4 h5
  exact lv_ladd hx hb hd  (k H locs ls h1 h2 h3 h4 h5)
theorem x_lmul (G : GK Γ cc own d) {x y : Int64} (hd : decode cc pc = .ok (.lmul, 1)) (k : XX Γ a (pc + 1) L (.long (x * y) :: S) w f) : XX Γ a pc L (.long y :: .long x :: S) w f := by
  obtain ⟨p, l, e, R, s, m, args, below, meth, c, Z, B⟩ := Γ
  obtain ⟨hx, hb, ho, hts, hE, hB0, hd1, hd2⟩ := G
  intro H locs ls h1 h2 h3 h4 h5
  exact lv_lmul hx hb hd  (k H locs ls h1 h2 h3 h4 h5)
theorem x_lrem (G : GK Γ cc own d) {x y : Int64} (hd : decode cc pc = .ok (.lrem, 1)) (hne : ¬ y = 0) (k : XX Γ a (pc + 1) L (.long (x - x / y * y) :: S) w f) : XX Γ a pc L (.long y :: .long x :: S) w f := by
  obtain ⟨p, l, e, R, s, m, args, below, meth, c, Z, B⟩ := Γ
  obtain ⟨hx, hb, ho, hts, hE, hB0, hd1, hd2⟩ := G
  intro H locs ls h1 h2 h3 h4 h5
  exact lv_lrem hx hb hd hne (k H locs ls h1 h2 h3 h4 h5)
theorem x_lcmp (G : GK Γ cc own d) {x y : Int64} (hd : decode cc pc = .ok (.lcmp, 1)) (k : XX Γ a (pc + 1) L (.int (lg_cmp x y) :: S) w f) : XX Γ a pc L (.long y :: .long x :: S) w f := by
  obtain ⟨p, l, e, R, s, m, args, below, meth, c, Z, B⟩ := Γ
  obtain ⟨hx, hb, ho, hts, hE, hB0, hd1, hd2⟩ := G
  intro H locs ls h1 h2 h3 h4 h5
  exact W.lcmp hx hb hd  (k H locs ls h1 h2 h3 h4 h5)
theorem x_ishl (G : GK Γ cc own d) {x y : Int32} (hd : decode cc pc = .ok (.ishl, 1)) (k : XX Γ a (pc + 1) L (.int (x <<< (y &&& 31)) :: S) w f) : XX Γ a pc L (.int y :: .int x :: S) w f := by
  obtain ⟨p, l, e, R, s, m, args, below, meth, c, Z, B⟩ := Γ
  obtain ⟨hx, hb, ho, hts, hE, hB0, hd1, hd2⟩ := G
  intro H locs ls h1 h2 h3 h4 h5
  exact lv_ishl hx hb hd  (k H locs ls h1 h2 h3 h4 h5)
theorem x_ishr (G : GK Γ cc own d) {x y : Int32} (hd : decode cc pc = .ok (.ishr, 1)) (k : XX Γ a (pc + 1) L (.int (x >>> (y &&& 31)) :: S) w f) : XX Γ a pc L (.int y :: .int x :: S) w f := by
  obtain ⟨p, l, e, R, s, m, args, below, meth, c, Z, B⟩ := Γ
  obtain ⟨hx, hb, ho, hts, hE, hB0, hd1, hd2⟩ := G
  intro H locs ls h1 h2 h3 h4 h5
  exact lv_ishr hx hb hd  (k H locs ls h1 h2 h3 h4 h5)
theorem x_i2l (G : GK Γ cc own d) {x : Int32} (hd : decode cc pc = .ok (.i2l, 1)) (k : XX Γ a (pc + 1) L (.long x.toInt64 :: S) w f) : XX Γ a pc L (.int x :: S) w f := by
  obtain ⟨p, l, e, R, s, m, args, below, meth, c, Z, B⟩ := Γ
  obtain ⟨hx, hb, ho, hts, hE, hB0, hd1, hd2⟩ := G
  intro H locs ls h1 h2 h3 h4 h5
  exact lv_i2l hx hb hd rfl (k H locs ls h1 h2 h3 h4 h5)
theorem x_l2i (G : GK Γ cc own d) {x : Int64} (hd : decode cc pc = .ok (.l2i, 1)) (k : XX Γ a (pc + 1) L (.int x.toInt32 :: S) w f) : XX Γ a pc L (.long x :: S) w f := by
  obtain ⟨p, l, e, R, s, m, args, below, meth, c, Z, B⟩ := Γ
  obtain ⟨hx, hb, ho, hts, hE, hB0, hd1, hd2⟩ := G
  intro H locs ls h1 h2 h3 h4 h5
  exact lv_l2i hx hb hd rfl (k H locs ls h1 h2 h3 h4 h5)
theorem x_i2b (G : GK Γ cc own d) {x : Int32} (hd : decode cc pc = .ok (.i2b, 1)) (k : XX Γ a (pc + 1) L (.int x.toInt8.toInt32 :: S) w f) : XX Γ a pc L (.int x :: S) w f := by
  obtain ⟨p, l, e, R, s, m, args, below, meth, c, Z, B⟩ := Γ
  obtain ⟨hx, hb, ho, hts, hE, hB0, hd1, hd2⟩ := G
  intro H locs ls h1 h2 h3 h4 h5
  exact lv_i2b hx hb hd rfl (k H locs ls h1 h2 h3 h4 h5)
theorem x_i2s (G : GK Γ cc own d) {x : Int32} (hd : decode cc pc = .ok (.i2s, 1)) (k : XX Γ a (pc + 1) L (.int x.toInt16.toInt32 :: S) w f) : XX Γ a pc L (.int x :: S) w f := by
  obtain ⟨p, l, e, R, s, m, args, below, meth, c, Z, B⟩ := Γ
  obtain ⟨hx, hb, ho, hts, hE, hB0, hd1, hd2⟩ := G
  intro H locs ls h1 h2 h3 h4 h5
  exact lv_i2s hx hb hd rfl (k H locs ls h1 h2 h3 h4 h5)
theorem x_dup (G : GK Γ cc own d) {v : Value} (hd : decode cc pc = .ok (.dup, 1)) (hc : v.category = 1) (k : XX Γ a (pc + 1) L (v :: v :: S) w f) : XX Γ a pc L (v :: S) w f := by
  obtain ⟨p, l, e, R, s, m, args, below, meth, c, Z, B⟩ := Γ
  obtain ⟨hx, hb, ho, hts, hE, hB0, hd1, hd2⟩ := G
  intro H locs ls h1 h2 h3 h4 h5
  exact lv_dup hx hb hd (by rw [cz_cat]; exact hc) (k H locs ls h1 h2 h3 h4 h5)
theorem x_dup2 (G : GK Γ cc own d) {v u : Value} (hd : decode cc pc = .ok (.dup2, 1)) (hc : v.category = 1) (hc2 : u.category = 1) (k : XX Γ a (pc + 1) L (v :: u :: v :: u :: S) w f) : XX Γ a pc L (v :: u :: S) w f := by
  obtain ⟨p, l, e, R, s, m, args, below, meth, c, Z, B⟩ := Γ
  obtain ⟨hx, hb, ho, hts, hE, hB0, hd1, hd2⟩ := G
  intro H locs ls h1 h2 h3 h4 h5
  exact lv_dup2_11 hx hb hd (by rw [cz_cat]; exact hc) (by rw [cz_cat]; exact hc2) (k H locs ls h1 h2 h3 h4 h5)
theorem x_iconst (G : GK Γ cc own d) {n : Int} {v : Int32} (hd : decode cc pc = .ok (.iconst n, 1)) (hv : Int32.ofInt n = v) (k : XX Γ a (pc + 1) L (.int v :: S) w f) : XX Γ a pc L (S) w f := by
  obtain ⟨p, l, e, R, s, m, args, below, meth, c, Z, B⟩ := Γ
  obtain ⟨hx, hb, ho, hts, hE, hB0, hd1, hd2⟩ := G
  intro H locs ls h1 h2 h3 h4 h5
  exact lv_iconst hx hb hd hv (k H locs ls h1 h2 h3 h4 h5)
theorem x_bipush (G : GK Γ cc own d) {n : Int} {v : Int32} (hd : decode cc pc = .ok (.bipush n, 2)) (hv : (Int8.ofInt n).toInt32 = v) (k : XX Γ a (pc + 2) L (.int v :: S) w f) : XX Γ a pc L (S) w f := by
  obtain ⟨p, l, e, R, s, m, args, below, meth, c, Z, B⟩ := Γ
  obtain ⟨hx, hb, ho, hts, hE, hB0, hd1, hd2⟩ := G
  intro H locs ls h1 h2 h3 h4 h5
  exact lv_bipush hx hb hd hv (k H locs ls h1 h2 h3 h4 h5)
theorem x_sipush (G : GK Γ cc own d) {n : Int} {v : Int32} (hd : decode cc pc = .ok (.sipush n, 3)) (hv : (Int16.ofInt n).toInt32 = v) (k : XX Γ a (pc + 3) L (.int v :: S) w f) : XX Γ a pc L (S) w f := by
  obtain ⟨p, l, e, R, s, m, args, below, meth, c, Z, B⟩ := Γ
  obtain ⟨hx, hb, ho, hts, hE, hB0, hd1, hd2⟩ := G
  intro H locs ls h1 h2 h3 h4 h5
  exact lv_sipush hx hb hd hv (k H locs ls h1 h2 h3 h4 h5)
theorem x_lconst (G : GK Γ cc own d) {n : Fin 2} {v : Int64} (hd : decode cc pc = .ok (.lconst n, 1)) (hv : Int64.ofNat (n : Nat) = v) (k : XX Γ a (pc + 1) L (.long v :: S) w f) : XX Γ a pc L (S) w f := by
  obtain ⟨p, l, e, R, s, m, args, below, meth, c, Z, B⟩ := Γ
  obtain ⟨hx, hb, ho, hts, hE, hB0, hd1, hd2⟩ := G
  intro H locs ls h1 h2 h3 h4 h5
  exact lv_lconst hx hb hd hv (k H locs ls h1 h2 h3 h4 h5)
theorem x_iload_n (G : GK Γ cc own d) {n : Fin 4} {i : Nat} {x : Int32} (hd : decode cc pc = .ok (.iload_n n, 1)) (hi : (n : Nat) = i) (hl : L[i]? = some (some (.int x))) (k : XX Γ a (pc + 1) L (.int x :: S) w f) : XX Γ a pc L (S) w f := by
  obtain ⟨p, l, e, R, s, m, args, below, meth, c, Z, B⟩ := Γ
  obtain ⟨hx, hb, ho, hts, hE, hB0, hd1, hd2⟩ := G
  intro H locs ls h1 h2 h3 h4 h5
  exact lv_iload_n hx hb hd hi (h3.2.2.2 _ _ hl) (k H locs ls h1 h2 h3 h4 h5)
theorem x_iload (G : GK Γ cc own d) {i : Nat} {x : Int32} (hd : decode cc pc = .ok (.iload i, 2)) (hl : L[i]? = some (some (.int x))) (k : XX Γ a (pc + 2) L (.int x :: S) w f) : XX Γ a pc L (S) w f := by
  obtain ⟨p, l, e, R, s, m, args, below, meth, c, Z, B⟩ := Γ
  obtain ⟨hx, hb, ho, hts, hE, hB0, hd1, hd2⟩ := G
  intro H locs ls h1 h2 h3 h4 h5
  exact lv_iload hx hb hd (h3.2.2.2 _ _ hl) (k H locs ls h1 h2 h3 h4 h5)
theorem x_lload_n (G : GK Γ cc own d) {n : Fin 4} {i : Nat} {x : Int64} (hd : decode cc pc = .ok (.lload_n n, 1)) (hi : (n : Nat) = i) (hl : L[i]? = some (some (.long x))) (k : XX Γ a (pc + 1) L (.long x :: S) w f) : XX Γ a pc L (S) w f := by
  obtain ⟨p, l, e, R, s, m, args, below, meth, c, Z, B⟩ := Γ
  obtain ⟨hx, hb, ho, hts, hE, hB0, hd1, hd2⟩ := G
  intro H locs ls h1 h2 h3 h4 h5
  exact lv_lload_n hx hb hd hi (h3.2.2.2 _ _ hl) (k H locs ls h1 h2 h3 h4 h5)
theorem x_lload (G : GK Γ cc own d) {i : Nat} {x : Int64} (hd : decode cc pc = .ok (.lload i, 2)) (hl : L[i]? = some (some (.long x))) (k : XX Γ a (pc + 2) L (.long x :: S) w f) : XX Γ a pc L (S) w f := by
  obtain ⟨p, l, e, R, s, m, args, below, meth, c, Z, B⟩ := Γ
  obtain ⟨hx, hb, ho, hts, hE, hB0, hd1, hd2⟩ := G
  intro H locs ls h1 h2 h3 h4 h5
  exact lv_lload hx hb hd (h3.2.2.2 _ _ hl) (k H locs ls h1 h2 h3 h4 h5)
theorem x_aload_n (G : GK Γ cc own d) {n : Fin 4} {i : Nat} {x : Nat} (hd : decode cc pc = .ok (.aload_n n, 1)) (hi : (n : Nat) = i) (hl : L[i]? = some (some (.ref x))) (k : XX Γ a (pc + 1) L (.ref x :: S) w f) : XX Γ a pc L (S) w f := by
  obtain ⟨p, l, e, R, s, m, args, below, meth, c, Z, B⟩ := Γ
  obtain ⟨hx, hb, ho, hts, hE, hB0, hd1, hd2⟩ := G
  intro H locs ls h1 h2 h3 h4 h5
  exact lv_aload_n hx hb hd hi (h3.2.2.2 _ _ hl) (k H locs ls h1 h2 h3 h4 h5)
theorem x_aload (G : GK Γ cc own d) {i : Nat} {x : Nat} (hd : decode cc pc = .ok (.aload i, 2)) (hl : L[i]? = some (some (.ref x))) (k : XX Γ a (pc + 2) L (.ref x :: S) w f) : XX Γ a pc L (S) w f := by
  obtain ⟨p, l, e, R, s, m, args, below, meth, c, Z, B⟩ := Γ
  obtain ⟨hx, hb, ho, hts, hE, hB0, hd1, hd2⟩ := G
  intro H locs ls h1 h2 h3 h4 h5
  exact lv_aload hx hb hd (h3.2.2.2 _ _ hl) (k H locs ls h1 h2 h3 h4 h5)
theorem x_aload_nE (G : GK Γ cc own d) {n : Fin 4} {i : Nat} {x : UInt32} (hd : decode cc pc = .ok (.aload_n n, 1)) (hi : (n : Nat) = i) (hl : L[i]? = some (some (.float x))) (k : XX Γ a (pc + 1) L (.float x :: S) w f) : XX Γ a pc L (S) w f := by
  obtain ⟨p, l, e, R, s, m, args, below, meth, c, Z, B⟩ := Γ
  obtain ⟨hx, hb, ho, hts, hE, hB0, hd1, hd2⟩ := G
  intro H locs ls h1 h2 h3 h4 h5
  exact lv_aload_n hx hb hd hi (h3.2.2.2 _ _ hl) (k H locs ls h1 h2 h3 h4 h5)
theorem x_aloadE (G : GK Γ cc own d) {i : Nat} {x : UInt32} (hd : decode cc pc = .ok (.aload i, 2)) (hl : L[i]? = some (some (.float x))) (k : XX Γ a (pc + 2) L (.float x :: S) w f) : XX Γ a pc L (S) w f := by
  obtain ⟨p, l, e, R, s, m, args, below, meth, c, Z, B⟩ := Γ
  obtain ⟨hx, hb, ho, hts, hE, hB0, hd1, hd2⟩ := G
  intro H locs ls h1 h2 h3 h4 h5
  exact lv_aload hx hb hd (h3.2.2.2 _ _ hl) (k H locs ls h1 h2 h3 h4 h5)
theorem lL.lt {B : BT} {ls : Array Slot} {nL i : Nat} {L : List (Option Value)} (h : lL B ls nL L) (hi : (L[i]?).isSome = true) : i < nL := by
  obtain ⟨x, hx⟩ := Option.isSome_iff_exists.mp hi
  rw [← h.2.1]
  exact (List.getElem?_eq_some_iff.mp hx).1
theorem x_istore_n (G : GK Γ cc own d) {n : Fin 4} {i : Nat} {x : Int32} (hd : decode cc pc = .ok (.istore_n n, 1)) (hi : (n : Nat) = i) (hl : (L[i]?).isSome = true) (hs : okS L i = true) (k : XX Γ a (pc + 1) (L.set i (some (.int x))) S w f) : XX Γ a pc L (.int x :: S) w f := by
  obtain ⟨p, l, e, R, s, m, args, below, meth, c, Z, B⟩ := Γ
  obtain ⟨hx, hb, ho, hts, hE, hB0, hd1, hd2⟩ := G
  intro H locs ls h1 h2 h3 h4 h5
  exact lv_istore_n hx hb hd hi h3.has (h3.lt hl) rfl (fun ls' h' => k H locs ls' h1 h2 (lL.st1 (v := .int x) h3.2.1 (h3.lt hl) hs h') h4 h5)
theorem x_istore (G : GK Γ cc own d) {i : Nat} {x : Int32} (hd : decode cc pc = .ok (.istore i, 2)) (hl : (L[i]?).isSome = true) (hs : okS L i = true) (k : XX Γ a (pc + 2) (L.set i (some (.int x))) S w f) : XX Γ a pc L (.int x :: S) w f := by
  obtain ⟨p, l, e, R, s, m, args, below, meth, c, Z, B⟩ := Γ
  obtain ⟨hx, hb, ho, hts, hE, hB0, hd1, hd2⟩ := G
  intro H locs ls h1 h2 h3 h4 h5
  exact lv_istore hx hb hd h3.has (h3.lt hl) rfl (fun ls' h' => k H locs ls' h1 h2 (lL.st1 (v := .int x) h3.2.1 (h3.lt hl) hs h') h4 h5)
theorem x_astore_n (G : GK Γ cc own d) {n : Fin 4} {i : Nat} {x : Nat} (hd : decode cc pc = .ok (.astore_n n, 1)) (hi : (n : Nat) = i) (hl : (L[i]?).isSome = true) (hs : okS L i = true) (k : XX Γ a (pc + 1) (L.set i (some (.ref x))) S w f) : XX Γ a pc L (.ref x :: S) w f := by
  obtain ⟨p, l, e, R, s, m, args, below, meth, c, Z, B⟩ := Γ
  obtain ⟨hx, hb, ho, hts, hE, hB0, hd1, hd2⟩ := G
  intro H locs ls h1 h2 h3 h4 h5
  exact lv_astore_n hx hb hd hi h3.has (h3.lt hl) rfl (fun ls' h' => k H locs ls' h1 h2 (lL.st1 (v := .ref x) h3.2.1 (h3.lt hl) hs h') h4 h5)
theorem x_astore (G : GK Γ cc own d) {i : Nat} {x : Nat} (hd : decode cc pc = .ok (.astore i, 2)) (hl : (L[i]?).isSome = true) (hs : okS L i = true) (k : XX Γ a (pc + 2) (L.set i (some (.ref x))) S w f) : XX Γ a pc L (.ref x :: S) w f := by
  obtain ⟨p, l, e, R, s, m, args, below, meth, c, Z, B⟩ := Γ
  obtain ⟨hx, hb, ho, hts, hE, hB0, hd1, hd2⟩ := G
  intro H locs ls h1 h2 h3 h4 h5
  exact lv_astore hx hb hd h3.has (h3.lt hl) rfl (fun ls' h' => k H locs ls' h1 h2 (lL.st1 (v := .ref x) h3.2.1 (h3.lt hl) hs h') h4 h5)
theorem x_lstore (G : GK Γ cc own d) {i : Nat} {x : Int64} (hd : decode cc pc = .ok (.lstore i, 2)) (hl : (L[i + 1]?).isSome = true) (hs : okS L i = true) (k : XX Γ a (pc + 2) ((L.set i (some (.long x))).set (i + 1) none) S w f) : XX Γ a pc L (.long x :: S) w f := by
  obtain ⟨p, l, e, R, s, m, args, below, meth, c, Z, B⟩ := Γ
  obtain ⟨hx, hb, ho, hts, hE, hB0, hd1, hd2⟩ := G
  intro H locs ls h1 h2 h3 h4 h5
  exact lv_lstore hx hb hd h3.has (h3.lt hl) rfl (fun ls' h' => k H locs ls' h1 h2 (lL.st2 (v := .long x) h3.2.1 (h3.lt hl) hs h') h4 h5)
theorem x_iinc (G : GK Γ cc own d) {i : Nat} {n : Int} {x v : Int32} (hd : decode cc pc = .ok (.iinc i n, 3)) (hl : L[i]? = some (some (.int x))) (hv : x + Int32.ofInt n = v) (hs : okS L i = true) (k : XX Γ a (pc + 3) (L.set i (some (.int v))) S w f) : XX Γ a pc L S w f := by
  obtain ⟨p, l, e, R, s, m, args, below, meth, c, Z, B⟩ := Γ
  obtain ⟨hx, hb, ho, hts, hE, hB0, hd1, hd2⟩ := G
  intro H locs ls h1 h2 h3 h4 h5
  obtain ⟨j, hj⟩ := List.getElem?_of_mem (pL_mem (B := B) (q := (i, .int x)).mpr ⟨.int x, hl, rfl⟩)
  have hlt : i < c.maxLocals := h3.lt (by rw [hl]; rfl)
  exact lv_iinc hx hb hd h3.has hj hv hlt rfl (fun ls' h' => k H locs ls' h1 h2 (lL.st1 (v := .int v) h3.2.1 hlt hs h') h4 h5)
theorem x_if_eq (G : GK Γ cc own d) {x : Int32} {off : Int} (tgt : Nat) (hd : decode cc pc = .ok (.ifCond .eq off, 3)) (ht : (pc : Int) + off = (tgt : Int)) (kt : x = 0 → XX Γ a tgt L S w f) (kf : ¬ x = 0 → XX Γ a (pc + 3) L S w f) : XX Γ a pc L (.int x :: S) w f := by
  obtain ⟨p, l, e, R, s, m, args, below, meth, c, Z, B⟩ := Γ
  obtain ⟨hx, hb, ho, hts, hE, hB0, hd1, hd2⟩ := G
  intro H locs ls h1 h2 h3 h4 h5
  exact lv_if_eq hx hb hd ht (fun q => kt q H locs ls h1 h2 h3 h4 h5) (fun q => kf q H locs ls h1 h2 h3 h4 h5)
theorem x_icmp_eq (G : GK Γ cc own d) {x y : Int32} {off : Int} (tgt : Nat) (hd : decode cc pc = .ok (.if_icmp .eq off, 3)) (ht : (pc : Int) + off = (tgt : Int)) (kt : x = y → XX Γ a tgt L S w f) (kf : ¬ x = y → XX Γ a (pc + 3) L S w f) : XX Γ a pc L (.int y :: .int x :: S) w f := by
  obtain ⟨p, l, e, R, s, m, args, below, meth, c, Z, B⟩ := Γ
  obtain ⟨hx, hb, ho, hts, hE, hB0, hd1, hd2⟩ := G
  intro H locs ls h1 h2 h3 h4 h5
  exact lv_icmp_eq hx hb hd ht (fun q => kt q H locs ls h1 h2 h3 h4 h5) (fun q => kf q H locs ls h1 h2 h3 h4 h5)
theorem x_if_ne (G : GK Γ cc own d) {x : Int32} {off : Int} (tgt : Nat) (hd : decode cc pc = .ok (.ifCond .ne off, 3)) (ht : (pc : Int) + off = (tgt : Int)) (kt : ¬ x = 0 → XX Γ a tgt L S w f) (kf : x = 0 → XX Γ a (pc + 3) L S w f) : XX Γ a pc L (.int x :: S) w f := by
  obtain ⟨p, l, e, R, s, m, args, below, meth, c, Z, B⟩ := Γ
  obtain ⟨hx, hb, ho, hts, hE, hB0, hd1, hd2⟩ := G
  intro H locs ls h1 h2 h3 h4 h5
  exact lv_if_ne hx hb hd ht (fun q => kt q H locs ls h1 h2 h3 h4 h5) (fun q => kf q H locs ls h1 h2 h3 h4 h5)
theorem x_icmp_ne (G : GK Γ cc own d) {x y : Int32} {off : Int} (tgt : Nat) (hd : decode cc pc = .ok (.if_icmp .ne off, 3)) (ht : (pc : Int) + off = (tgt : Int)) (kt : ¬ x = y → XX Γ a tgt L S w f) (kf : x = y → XX Γ a (pc + 3) L S w f) : XX Γ a pc L (.int y :: .int x :: S) w f := by
  obtain ⟨p, l, e, R, s, m, args, below, meth, c, Z, B⟩ := Γ
  obtain ⟨hx, hb, ho, hts, hE, hB0, hd1, hd2⟩ := G
  intro H locs ls h1 h2 h3 h4 h5
  exact lv_icmp_ne hx hb hd ht (fun q => kt q H locs ls h1 h2 h3 h4 h5) (fun q => kf q H locs ls h1 h2 h3 h4 h5)
theorem x_if_lt (G : GK Γ cc own d) {x : Int32} {off : Int} (tgt : Nat) (hd : decode cc pc = .ok (.ifCond .lt off, 3)) (ht : (pc : Int) + off = (tgt : Int)) (kt : x < 0 → XX Γ a tgt L S w f) (kf : ¬ x < 0 → XX Γ a (pc + 3) L S w f) : XX Γ a pc L (.int x :: S) w f := by
  obtain ⟨p, l, e, R, s, m, args, below, meth, c, Z, B⟩ := Γ
  obtain ⟨hx, hb, ho, hts, hE, hB0, hd1, hd2⟩ := G
  intro H locs ls h1 h2 h3 h4 h5
  exact lv_if_lt hx hb hd ht (fun q => kt q H locs ls h1 h2 h3 h4 h5) (fun q => kf q H locs ls h1 h2 h3 h4 h5)
theorem x_icmp_lt (G : GK Γ cc own d) {x y : Int32} {off : Int} (tgt : Nat) (hd : decode cc pc = .ok (.if_icmp .lt off, 3)) (ht : (pc : Int) + off = (tgt : Int)) (kt : x < y → XX Γ a tgt L S w f) (kf : ¬ x < y → XX Γ a (pc + 3) L S w f) : XX Γ a pc L (.int y :: .int x :: S) w f := by
  obtain ⟨p, l, e, R, s, m, args, below, meth, c, Z, B⟩ := Γ
  obtain ⟨hx, hb, ho, hts, hE, hB0, hd1, hd2⟩ := G
  intro H locs ls h1 h2 h3 h4 h5
  exact lv_icmp_lt hx hb hd ht (fun q => kt q H locs ls h1 h2 h3 h4 h5) (fun q => kf q H locs ls h1 h2 h3 h4 h5)
theorem x_if_ge (G : GK Γ cc own d) {x : Int32} {off : Int} (tgt : Nat) (hd : decode cc pc = .ok (.ifCond .ge off, 3)) (ht : (pc : Int) + off = (tgt : Int)) (kt : 0 ≤ x → XX Γ a tgt L S w f) (kf : ¬ 0 ≤ x → XX Γ a (pc + 3) L S w f) : XX Γ a pc L (.int x :: S) w f := by
  obtain ⟨p, l, e, R, s, m, args, below, meth, c, Z, B⟩ := Γ
  obtain ⟨hx, hb, ho, hts, hE, hB0, hd1, hd2⟩ := G
  intro H locs ls h1 h2 h3 h4 h5
  exact lv_if_ge hx hb hd ht (fun q => kt q H locs ls h1 h2 h3 h4 h5) (fun q => kf q H locs ls h1 h2 h3 h4 h5)
theorem x_icmp_ge (G : GK Γ cc own d) {x y : Int32} {off : Int} (tgt : Nat) (hd : decode cc pc = .ok (.if_icmp .ge off, 3)) (ht : (pc : Int) + off = (tgt : Int)) (kt : y ≤ x → XX Γ a tgt L S w f) (kf : ¬ y ≤ x → XX Γ a (pc + 3) L S w f) : XX Γ a pc L (.int y :: .int x :: S) w f := by
  obtain ⟨p, l, e, R, s, m, args, below, meth, c, Z, B⟩ := Γ
  obtain ⟨hx, hb, ho, hts, hE, hB0, hd1, hd2⟩ := G
  intro H locs ls h1 h2 h3 h4 h5
  exact lv_icmp_ge hx hb hd ht (fun q => kt q H locs ls h1 h2 h3 h4 h5) (fun q => kf q H locs ls h1 h2 h3 h4 h5)
theorem x_if_gt (G : GK Γ cc own d) {x : Int32} {off : Int} (tgt : Nat) (hd : decode cc pc = .ok (.ifCond .gt off, 3)) (ht : (pc : Int) + off = (tgt : Int)) (kt : 0 < x → XX Γ a tgt L S w f) (kf : ¬ 0 < x → XX Γ a (pc + 3) L S w f) : XX Γ a pc L (.int x :: S) w f := by
  obtain ⟨p, l, e, R, s, m, args, below, meth, c, Z, B⟩ := Γ
  obtain ⟨hx, hb, ho, hts, hE, hB0, hd1, hd2⟩ := G
  intro H locs ls h1 h2 h3 h4 h5
  exact lv_if_gt hx hb hd ht (fun q => kt q H locs ls h1 h2 h3 h4 h5) (fun q => kf q H locs ls h1 h2 h3 h4 h5)
theorem x_icmp_gt (G : GK Γ cc own d) {x y : Int32} {off : Int} (tgt : Nat) (hd : decode cc pc = .ok (.if_icmp .gt off, 3)) (ht : (pc : Int) + off = (tgt : Int)) (kt : y < x → XX Γ a tgt L S w f) (kf : ¬ y < x → XX Γ a (pc + 3) L S w f) : XX Γ a pc L (.int y :: .int x :: S) w f := by
  obtain ⟨p, l, e, R, s, m, args, below, meth, c, Z, B⟩ := Γ
  obtain ⟨hx, hb, ho, hts, hE, hB0, hd1, hd2⟩ := G
  intro H locs ls h1 h2 h3 h4 h5
  exact lv_icmp_gt hx hb hd ht (fun q => kt q H locs ls h1 h2 h3 h4 h5) (fun q => kf q H locs ls h1 h2 h3 h4 h5)
theorem x_if_le (G : GK Γ cc own d) {x : Int32} {off : Int} (tgt : Nat) (hd : decode cc pc = .ok (.ifCond .le off, 3)) (ht : (pc : Int) + off = (tgt : Int)) (kt : x ≤ 0 → XX Γ a tgt L S w f) (kf : ¬ x ≤ 0 → XX Γ a (pc + 3) L S w f) : XX Γ a pc L (.int x :: S) w f := by
  obtain ⟨p, l, e, R, s, m, args, below, meth, c, Z, B⟩ := Γ
  obtain ⟨hx, hb, ho, hts, hE, hB0, hd1, hd2⟩ := G
  intro H locs ls h1 h2 h3 h4 h5
  exact lv_if_le hx hb hd ht (fun q => kt q H locs ls h1 h2 h3 h4 h5) (fun q => kf q H locs ls h1 h2 h3 h4 h5)
theorem x_icmp_le (G : GK Γ cc own d) {x y : Int32} {off : Int} (tgt : Nat) (hd : decode cc pc = .ok (.if_icmp .le off, 3)) (ht : (pc : Int) + off = (tgt : Int)) (kt : x ≤ y → XX Γ a tgt L S w f) (kf : ¬ x ≤ y → XX Γ a (pc + 3) L S w f) : XX Γ a pc L (.int y :: .int x :: S) w f := by
  obtain ⟨p, l, e, R, s, m, args, below, meth, c, Z, B⟩ := Γ
  obtain ⟨hx, hb, ho, hts, hE, hB0, hd1, hd2⟩ := G
  intro H locs ls h1 h2 h3 h4 h5
  exact lv_icmp_le hx hb hd ht (fun q => kt q H locs ls h1 h2 h3 h4 h5) (fun q => kf q H locs ls h1 h2 h3 h4 h5)
theorem x_goto (G : GK Γ cc own d) {off : Int} (tgt : Nat) (hd : decode cc pc = .ok (.goto off, 3)) (ht : (pc : Int) + off = (tgt : Int)) (k : XX Γ a tgt L S w f) : XX Γ a pc L S w f := by
  obtain ⟨p, l, e, R, s, m, args, below, meth, c, Z, B⟩ := Γ
  obtain ⟨hx, hb, ho, hts, hE, hB0, hd1, hd2⟩ := G
  intro H locs ls h1 h2 h3 h4 h5
  exact lv_goto hx hb hd ht (k H locs ls h1 h2 h3 h4 h5)
theorem x_tabOut (G : GK Γ cc own d) {dflt lo hi : Int} {offs : Array Int} {len : Nat} {x : Int32} (tgt : Nat) (hd : decode cc pc = .ok (.tableswitch dflt lo hi offs, len)) (h : x.toInt < lo ∨ hi < x.toInt) (ht : (pc : Int) + dflt = (tgt : Int)) (k : XX Γ a tgt L S w f) : XX Γ a pc L (.int x :: S) w f := by
  obtain ⟨p, l, e, R, s, m, args, below, meth, c, Z, B⟩ := Γ
  obtain ⟨hx, hb, ho, hts, hE, hB0, hd1, hd2⟩ := G
  intro H locs ls h1 h2 h3 h4 h5
  exact lv_tableOut hx hb hd h ht (k H locs ls h1 h2 h3 h4 h5)
theorem x_tabIn (G : GK Γ cc own d) {dflt lo hi : Int} {offs : Array Int} {len : Nat} {x : Int32} {off : Int} (tgt : Nat) (hd : decode cc pc = .ok (.tableswitch dflt lo hi offs, len)) (hl1 : ¬ x.toInt < lo) (hl2 : ¬ hi < x.toInt) (hof : offs[(x.toInt - lo).toNat]? = some off) (ht : (pc : Int) + off = (tgt : Int)) (k : XX Γ a tgt L S w f) : XX Γ a pc L (.int x :: S) w f := by
  obtain ⟨p, l, e, R, s, m, args, below, meth, c, Z, B⟩ := Γ
  obtain ⟨hx, hb, ho, hts, hE, hB0, hd1, hd2⟩ := G
  intro H locs ls h1 h2 h3 h4 h5
  exact lv_tableIn hx hb hd hl1 hl2 hof ht (k H locs ls h1 h2 h3 h4 h5)
theorem x_look (G : GK Γ cc own d) {dflt : Int} {ps : Array (Int × Int)} {len : Nat} {x : Int32} {off : Int} (tgt : Nat) (hd : decode cc pc = .ok (.lookupswitch dflt ps, len)) (hp : (ps.toList.zip (ps.toList.drop 1)).all (fun (a, next) => a.1 < next.1) = true) (hof : Op.lookupswitch.offset ps.toList dflt x.toInt = off) (ht : (pc : Int) + off = (tgt : Int)) (k : XX Γ a tgt L S w f) : XX Γ a pc L (.int x :: S) w f := by
  obtain ⟨p, l, e, R, s, m, args, below, meth, c, Z, B⟩ := Γ
  obtain ⟨hx, hb, ho, hts, hE, hB0, hd1, hd2⟩ := G
  intro H locs ls h1 h2 h3 h4 h5
  exact lv_lookup hx hb hd hp hof ht (k H locs ls h1 h2 h3 h4 h5)
theorem x_ldc (G : GK Γ cc own d) {ix : Nat} {v : Int32} (hd : decode cc pc = .ok (.ldc ix, 2)) (hc : Cond.constant own ix v ∈ gw) (k : XX Γ a (pc + 2) L (.int v :: S) w f) : XX Γ a pc L S w f := by
  obtain ⟨p, l, e, R, s, m, args, below, meth, c, Z, B⟩ := Γ
  obtain ⟨hx, hb, ho, hts, hE, hB0, hd1, hd2⟩ := G
  intro H locs ls h1 h2 h3 h4 h5
  exact lv_ldc hx hb ho (hts _ hc) hd (k H locs ls h1 h2 h3 h4 h5)
theorem x_ldcw (G : GK Γ cc own d) {ix : Nat} {v : Int32} (hd : decode cc pc = .ok (.ldc_w ix, 3)) (hc : Cond.constant own ix v ∈ gw) (k : XX Γ a (pc + 3) L (.int v :: S) w f) : XX Γ a pc L S w f := by
  obtain ⟨p, l, e, R, s, m, args, below, meth, c, Z, B⟩ := Γ
  obtain ⟨hx, hb, ho, hts, hE, hB0, hd1, hd2⟩ := G
  intro H locs ls h1 h2 h3 h4 h5
  exact lv_ldcw hx hb ho (hts _ hc) hd (k H locs ls h1 h2 h3 h4 h5)
theorem x_ldc2 (G : GK Γ cc own d) {ix : Nat} {v : Int64} (hd : decode cc pc = .ok (.ldc2_w ix, 3)) (hc : Cond.constantLong own ix v ∈ gw) (k : XX Γ a (pc + 3) L (.long v :: S) w f) : XX Γ a pc L S w f := by
  obtain ⟨p, l, e, R, s, m, args, below, meth, c, Z, B⟩ := Γ
  obtain ⟨hx, hb, ho, hts, hE, hB0, hd1, hd2⟩ := G
  intro H locs ls h1 h2 h3 h4 h5
  exact lv_ldc2 hx hb ho (hts _ hc) hd (k H locs ls h1 h2 h3 h4 h5)
theorem x_getf (G : GK Γ cc own d) {ix i ci k : Nat} {fs : List Value} {v : Value} (q : Nat) (hd : decode cc pc = .ok (.getfield ix, 3)) (hf : FG own ix ci k) (hw : w[q]? = some (i, ob ci fs)) (hv : fs[k]? = some v) (kk : XX Γ a (pc + 3) L (v :: S) w f) : XX Γ a pc L (.ref i :: S) w f := by
  obtain ⟨p, l, e, R, s, m, args, below, meth, c, Z, B⟩ := Γ
  obtain ⟨hx, hb, ho, hts, hE, hB0, hd1, hd2⟩ := G
  intro H locs ls h1 h2 h3 h4 h5
  obtain ⟨hi, hc⟩ := h1.cell hw
  obtain ⟨C, T, N, c1, c2, c3, c4, c5⟩ := hf
  exact va_get hx hb hts c4 ho hE.1 h1.2.2 i hc c1 k c2 (hts _ c3) (fun x h => by rw [c5] at h; exact h) (by rw [List.getElem?_map, hv]; rfl) hd (kk H locs ls h1 h2 h3 h4 h5)
theorem x_puti (G : GK Γ cc own d) {ix i ci k : Nat} {fs : List Value} {x : Int32} (q : Nat) (hd : decode cc pc = .ok (.putfield ix, 3)) (hf : FG own ix ci k) (hfi : FI ci k) (hw : w[q]? = some (i, ob ci fs)) (hv : (fs[k]?).isSome = true) (kk : XX Γ a (pc + 3) L S (w.set q (i, ob ci (fs.set k (.int x)))) f) : XX Γ a pc L (.int x :: .ref i :: S) w f := by
  obtain ⟨p, l, e, R, s, m, args, below, meth, c, Z, B⟩ := Γ
  obtain ⟨hx, hb, ho, hts, hE, hB0, hd1, hd2⟩ := G
  intro H locs ls h1 h2 h3 h4 h5
  obtain ⟨hi, hc⟩ := h1.cell hw
  obtain ⟨C, T, N, c1, c2, c3, c4, c5⟩ := hf
  obtain ⟨⟨C', T', N', ty, e1, e2, e3⟩, C'', T'', N'', g1, g2, g3⟩ := hfi
  cases c1.symm.trans e1
  cases c1.symm.trans g1
  have hl : k < fs.length := by
    obtain ⟨y, hy⟩ := Option.isSome_iff_exists.mp hv
    exact (List.getElem?_eq_some_iff.mp hy).1
  refine va_put (ty := .int) (v := .int x) hx hb hts c4 ty e2 e3 ho hE.1 h1.2.2 wl_D h2 i hc c1 k c2 (hts _ c3) (fun x h => by rw [c5] at h; exact h) g2 (by rw [g3]; decide +kernel) rfl rfl (by rw [List.length_map]; exact hl) hd (fun H1 locs1 hP hD hS => ?_)
  refine kk H1 locs1 ls (h1.set hw ?_) hS h3 h4 h5
  have e : (fs.set k (.int x)).map (cz B) = (fs.map (cz B)).set k (.int x) := by rw [List.map_set]; rfl
  simp only [cE, e]
  exact hP
theorem x_putr (G : GK Γ cc own d) (hnm : NM Γ "<init>") {ix i j ci k : Nat} {fs : List Value} (q : Nat) (hd : decode cc pc = .ok (.putfield ix, 3)) (hf : FG own ix ci k) (hfi : FR own ci k) (hw : w[q]? = some (i, ob ci fs)) (hv : (fs[k]?).isSome = true) (kk : XX Γ a (pc + 3) L S (w.set q (i, ob ci (fs.set k (.ref j)))) f) : XX Γ a pc L (.ref j :: .ref i :: S) w f := by
  obtain ⟨p, l, e, R, s, m, args, below, meth, c, Z, B⟩ := Γ
  obtain ⟨hx, hb, ho, hts, hE, hB0, hd1, hd2⟩ := G
  intro H locs ls h1 h2 h3 h4 h5
  obtain ⟨hi, hc⟩ := h1.cell hw
  obtain ⟨C, T, N, c1, c2, c3, c4, c5⟩ := hf
  obtain ⟨⟨C', T', N', ty, e1, e2, e3⟩, C'', T'', N'', ty', g1, g2, g3, g4, g5, g6⟩ := hfi
  cases c1.symm.trans e1
  cases c1.symm.trans g1
  have hl : k < fs.length := by
    obtain ⟨y, hy⟩ := Option.isSome_iff_exists.mp hv
    exact (List.getElem?_eq_some_iff.mp hy).1
  refine va_putF (ty := ty') (v := .ref (B.1 + j)) hx hb hts c4 ty e2 e3 ho hE.1 h1.2.2 wl_D h2 i hc c1 k c2 (hts _ c3) (fun x h => by rw [c5] at h; exact h) g2 hnm (c5.trans g6) g3 (g4 _) (g5 _) (by rw [List.length_map]; exact hl) hd (fun H1 locs1 hP hD hS => ?_)
  refine kk H1 locs1 ls (h1.set hw ?_) hS h3 h4 h5
  have e : (fs.set k (.ref j)).map (cz B) = (fs.map (cz B)).set k (.ref (B.1 + j)) := by rw [List.map_set]; rfl
  simp only [cE, e]
  exact hP
theorem inN {x : Int32} {n j : Nat} (hj : x = nI j) (hlt : j < n) (hn : n < 2147483648) : vp_in x n ∧ x.toNatClampNeg = j := by
  subst hj
  exact ⟨vp_in_nI hlt hn, nI_clamp (by omega)⟩
theorem x_iald (G : GK Γ cc own d) {x : Int32} {i n : Nat} {g : Nat → Int32} (q j : Nat) (hd : decode cc pc = .ok (.iaload, 1)) (hw : w[q]? = some (i, ai n g)) (hj : x = nI j) (hlt : j < n) (hn : n < 2147483648) (kk : XX Γ a (pc + 1) L (.int (g j) :: S) w f) : XX Γ a pc L (.int x :: .ref i :: S) w f := by
  obtain ⟨p, l, e, R, s, m, args, below, meth, c, Z, B⟩ := Γ
  obtain ⟨hx, hb, ho, hts, hE, hB0, hd1, hd2⟩ := G
  intro H locs ls h1 h2 h3 h4 h5
  obtain ⟨hi, hc⟩ := h1.cell hw
  obtain ⟨v1, v2⟩ := inN hj hlt hn
  refine va_iald hx hb hE.1 h1.2.2 i 0 hc rfl v1 hd ?_
  rw [v2]
  exact kk H locs ls h1 h2 h3 h4 h5
theorem x_zald (G : GK Γ cc own d) {x : Int32} {i n : Nat} {g : Nat → Int32} (q j : Nat) (hd : decode cc pc = .ok (.baload, 1)) (hw : w[q]? = some (i, ab n g)) (hj : x = nI j) (hlt : j < n) (hn : n < 2147483648) (kk : XX Γ a (pc + 1) L (.int (g j) :: S) w f) : XX Γ a pc L (.int x :: .ref i :: S) w f := by
  obtain ⟨p, l, e, R, s, m, args, below, meth, c, Z, B⟩ := Γ
  obtain ⟨hx, hb, ho, hts, hE, hB0, hd1, hd2⟩ := G
  intro H locs ls h1 h2 h3 h4 h5
  obtain ⟨hi, hc⟩ := h1.cell hw
  obtain ⟨v1, v2⟩ := inN hj hlt hn
  refine va_zald hx hb hE.1 h1.2.2 i 1 hc rfl v1 hd ?_
  rw [v2]
  exact kk H locs ls h1 h2 h3 h4 h5
theorem x_aald (G : GK Γ cc own d) {x : Int32} {i n r : Nat} {g : Nat → Option Nat} (q j : Nat) (hd : decode cc pc = .ok (.aaload, 1)) (hw : w[q]? = some (i, aq n g)) (hj : x = nI j) (hlt : j < n) (hn : n < 2147483648) (hr : g j = some r) (kk : XX Γ a (pc + 1) L (.ref r :: S) w f) : XX Γ a pc L (.int x :: .ref i :: S) w f := by
  obtain ⟨p, l, e, R, s, m, args, below, meth, c, Z, B⟩ := Γ
  obtain ⟨hx, hb, ho, hts, hE, hB0, hd1, hd2⟩ := G
  intro H locs ls h1 h2 h3 h4 h5
  obtain ⟨hi, hc⟩ := h1.cell hw
  obtain ⟨v1, v2⟩ := inN hj hlt hn
  refine va_aldq hx hb hE.1 h1.2.2 i 2 hc rfl v1 hd ?_
  rw [v2, hr]
  exact kk H locs ls h1 h2 h3 h4 h5
theorem x_iast (G : GK Γ cc own d) {x v : Int32} {i n : Nat} {g : Nat → Int32} (q j : Nat) (hd : decode cc pc = .ok (.iastore, 1)) (hw : w[q]? = some (i, ai n g)) (hj : x = nI j) (hlt : j < n) (hn : n < 2147483648) (kk : XX Γ a (pc + 1) L S (w.set q (i, ai n (upd g j v))) f) : XX Γ a pc L (.int v :: .int x :: .ref i :: S) w f := by
  obtain ⟨p, l, e, R, s, m, args, below, meth, c, Z, B⟩ := Γ
  obtain ⟨hx, hb, ho, hts, hE, hB0, hd1, hd2⟩ := G
  intro H locs ls h1 h2 h3 h4 h5
  obtain ⟨hi, hc⟩ := h1.cell hw
  obtain ⟨v1, v2⟩ := inN hj hlt hn
  refine va_iast hx hb hE.1 h1.2.2 wl_D h2 i 0 hc rfl v1 hd (fun H1 locs1 hP hD hS => ?_)
  rw [v2] at hP
  exact kk H1 locs1 ls (h1.set hw hP) hS h3 h4 h5
theorem x_zast (G : GK Γ cc own d) {x v : Int32} {i n : Nat} {g : Nat → Int32} (q j : Nat) (hd : decode cc pc = .ok (.bastore, 1)) (hw : w[q]? = some (i, ab n g)) (hj : x = nI j) (hlt : j < n) (hn : n < 2147483648) (kk : XX Γ a (pc + 1) L S (w.set q (i, ab n (upd g j (vp_nar .boolean v)))) f) : XX Γ a pc L (.int v :: .int x :: .ref i :: S) w f := by
  obtain ⟨p, l, e, R, s, m, args, below, meth, c, Z, B⟩ := Γ
  obtain ⟨hx, hb, ho, hts, hE, hB0, hd1, hd2⟩ := G
  intro H locs ls h1 h2 h3 h4 h5
  obtain ⟨hi, hc⟩ := h1.cell hw
  obtain ⟨v1, v2⟩ := inN hj hlt hn
  refine va_zast hx hb hE.1 h1.2.2 wl_D h2 i 1 hc rfl v1 hd (fun H1 locs1 hP hD hS => ?_)
  rw [v2] at hP
  exact kk H1 locs1 ls (h1.set hw hP) hS h3 h4 h5
theorem x_copy (G : GK Γ cc own (d + 1)) {ix : Nat} {xs xd xn : Int32} {i0 i1 n0 n1 : Nat} {g0 g1 : Nat → Int32} (q0 q1 sp dp n : Nat) (hd : decode cc pc = .ok (.invokestatic ix, 3)) (hml : Cond.methodLink own ix arraycopyName ∈ gw) (hnat : Cond.native arraycopyName ∈ gw) (hstt : Cond.static arraycopyName ∈ gw) (hini : Cond.initialized "java/lang/System" ∈ gw) (hw0 : w[q0]? = some (i0, ai n0 g0)) (hw1 : w[q1]? = some (i1, ai n1 g1)) (hs : xs = nI sp) (hdp : xd = nI dp) (hn : xn = nI n) (hb0 : sp + n ≤ n0) (hb1 : dp + n ≤ n1) (hm0 : n0 < 2147483648) (hm1 : n1 < 2147483648) (hS8 : (S.map fun v => v.category).sum ≤ 8) (kk : XX Γ a (pc + 3) L S (w.set q1 (i1, ai n1 (va_cpy g0 g1 sp dp n))) f) : XX Γ a pc L (.int xn :: .int xd :: .ref i1 :: .int xs :: .ref i0 :: S) w f := by
  obtain ⟨p, l, e, R, s, m, args, below, meth, c, Z, B⟩ := Γ
  obtain ⟨hx, hb, ho, hts, hE, hB0, hd1, hd2⟩ := G
  intro H locs ls h1 h2 h3 h4 h5
  obtain ⟨hi0, hc0⟩ := h1.cell hw0
  obtain ⟨hi1, hc1⟩ := h1.cell hw1
  subst hs; subst hdp; subst hn
  have e0 : (nI sp).toNatClampNeg = sp := nI_clamp (by omega)
  have e1 : (nI dp).toNatClampNeg = dp := nI_clamp (by omega)
  have e2 : (nI n).toNatClampNeg = n := nI_clamp (by omega)
  have hnw : nativeFrameWords "java/lang/System" "arraycopy" 5 + 11 ≤ 56 := by decide +kernel
  have hroom : ((S.map (cz B)).map fun v => v.category).sum + (nativeFrameWords "java/lang/System" "arraycopy" 5 + 11) ≤ R.locals := by rw [cz_sum]; omega
  refine va_copyi (sp := nI sp) (dp := nI dp) (n := nI n) hx hb h3.1.symm ho (hts _ hml) (hts _ hnat) (hts _ hstt) (hts _ hini) hE.1 h1.2.2 wl_D h2 i0 i1 0 0 hc0 hc1 rfl rfl rfl (nI_pos (by omega)) (nI_pos (by omega)) (nI_pos (by omega)) (by rw [e0, e2]; exact hb0) (by rw [e1, e2]; exact hb1) (fun i _ => rfl) (by omega) hroom hd (fun H1 locs1 hP hD hS => ?_)
  rw [e0, e1, e2] at hP
  exact kk H1 locs1 ls (h1.set hw1 hP) hS h3 h4 h5
theorem x_abs (G : GK Γ cc own (d + 1)) {ix : Nat} {x : Int32} (hd : decode cc pc = .ok (.invokestatic ix, 3)) (hml : Cond.methodLink own ix Lib.Math.abs.name ∈ gw) (hstt : Cond.static Lib.Math.abs.name ∈ gw) (hini : Cond.initialized "java/lang/Math" ∈ gw) (hcode : Cond.code Lib.Math.abs.name Lib.Math.abs.code 1 (some .int) ∈ gw) (hS8 : (S.map fun v => v.category).sum ≤ 8) (kk : XX Γ a (pc + 3) L (.int (if 0 ≤ x then x else 0 - x) :: S) w f) : XX Γ a pc L (.int x :: S) w f := by
  obtain ⟨p, l, e, R, s, m, args, below, meth, c, Z, B⟩ := Γ
  obtain ⟨hx, hb, ho, hts, hE, hB0, hd1, hd2⟩ := G
  intro H locs ls h1 h2 h3 h4 h5
  exact va_mabs hx hb h3.1.symm ho (hts _ hml) (hts _ hstt) (hts _ hini) (hts _ hcode) (by omega) (by rw [cz_sum]; omega) h4 h5 hd (kk H locs ls h1 h2 h3 h4 h5)
theorem x_objinit (G : GK Γ cc own (d + 1)) {ix i : Nat} (hd : decode cc pc = .ok (.invokespecial ix, 3)) (hml : Cond.methodLink own ix Lib.objectInit ∈ gw) (hin : Cond.instanceMethod Lib.objectInit ∈ gw) (hcode : Cond.code Lib.objectInit ⟨#[0xb1]⟩ 1 none ∈ gw) (hS8 : (S.map fun v => v.category).sum ≤ 8) (kk : XX Γ a (pc + 3) L S w f) : XX Γ a pc L (.ref i :: S) w f := by
  obtain ⟨p, l, e, R, s, m, args, below, meth, c, Z, B⟩ := Γ
  obtain ⟨hx, hb, ho, hts, hE, hB0, hd1, hd2⟩ := G
  intro H locs ls h1 h2 h3 h4 h5
  refine W.objInit hx hb ho (hts _ hml) (hts _ hin) (hts _ hcode) rfl h3.1 rfl hd (by omega) ?_ (kk H locs ls h1 h2 h3 h4 h5)
  show 2 * 0 + _ + 12 ≤ _
  rw [cz_sum]
  omega
theorem x_gets1 (G : GK Γ cc RX1 d) {ix : Nat} (hd : decode cc pc = .ok (.getstatic ix, 3)) (hml : Cond.fieldLink RX1 ix RX1 "SIZE_BODIES" "[I" ∈ gw) (kk : XX Γ a (pc + 3) L (.float 1 :: S) w f) : XX Γ a pc L S w f := by
  obtain ⟨p, l, e, R, s, m, args, below, meth, c, Z, B⟩ := Γ
  obtain ⟨hx, hb, ho, hts, hE, hB0, hd1, hd2⟩ := G
  intro H locs ls h1 h2 h3 h4 h5
  exact va_gets hx hb hE.2.2.2.1.1 h2 ho (hts _ hml) (fun _ h => h) hd (kk H locs ls h1 h2 h3 h4 h5)
theorem x_gets2 (G : GK Γ cc RX1 d) {ix : Nat} (hd : decode cc pc = .ok (.getstatic ix, 3)) (hml : Cond.fieldLink RX1 ix RX1 "MARK_BODIES" "[I" ∈ gw) (kk : XX Γ a (pc + 3) L (.float 2 :: S) w f) : XX Γ a pc L S w f := by
  obtain ⟨p, l, e, R, s, m, args, below, meth, c, Z, B⟩ := Γ
  obtain ⟨hx, hb, ho, hts, hE, hB0, hd1, hd2⟩ := G
  intro H locs ls h1 h2 h3 h4 h5
  exact va_gets hx hb hE.2.2.2.2.1 h2 ho (hts _ hml) (fun _ h => h) hd (kk H locs ls h1 h2 h3 h4 h5)
theorem x_eald1 (G : GK Γ cc own d) {x : Int32} (j : Nat) (hd : decode cc pc = .ok (.iaload, 1)) (hj : x = nI j) (hlt : j < 6) (kk : XX Γ a (pc + 1) L (.int (sizeB j) :: S) w f) : XX Γ a pc L (.int x :: .float 1 :: S) w f := by
  obtain ⟨p, l, e, R, s, m, args, below, meth, c, Z, B⟩ := Γ
  obtain ⟨hx, hb, ho, hts, hE, hB0, hd1, hd2⟩ := G
  intro H locs ls h1 h2 h3 h4 h5
  obtain ⟨v1, v2⟩ := inN hj hlt (by omega)
  exact va_ti hx hb hE.2.2.2.1.2 h2 v1 (by rw [v2]; rfl) hd (kk H locs ls h1 h2 h3 h4 h5)
theorem x_eald2 (G : GK Γ cc own d) {x : Int32} (j : Nat) (hd : decode cc pc = .ok (.iaload, 1)) (hj : x = nI j) (hlt : j < 6) (kk : XX Γ a (pc + 1) L (.int (markB j) :: S) w f) : XX Γ a pc L (.int x :: .float 2 :: S) w f := by
  obtain ⟨p, l, e, R, s, m, args, below, meth, c, Z, B⟩ := Γ
  obtain ⟨hx, hb, ho, hts, hE, hB0, hd1, hd2⟩ := G
  intro H locs ls h1 h2 h3 h4 h5
  obtain ⟨v1, v2⟩ := inN hj hlt (by omega)
  exact va_ti hx hb hE.2.2.2.2.2 h2 v1 (by rw [v2]; rfl) hd (kk H locs ls h1 h2 h3 h4 h5)
theorem x_iret (G : GK Γ cc own d) {v : Int32} {w0 : WA} {v0 : Option Value} (T : RT Γ (some .int) a f v0 w0) (hd : decode cc pc = .ok (.ireturn, 1)) (hv : some (.int v) = v0) (hw : w = w0) : XX Γ a pc L [.int v] w f := by
  obtain ⟨p, l, e, R, s, m, args, below, meth, c, Z, B⟩ := Γ
  obtain ⟨hx, hb, ho, hts, hE, hB0, hd1, hd2⟩ := G
  intro H locs ls h1 h2 h3 h4 h5
  obtain ⟨t1, t2, t3⟩ := T
  subst t3; subst hv; subst hw
  exact W.iret hx hb t1 (fun t ht hW => ⟨⟨rfl, by rw [ht]; exact h1⟩, h2.F ht⟩) h2.2.2 hd t2
theorem x_zret (G : GK Γ cc own d) {v : Int32} {w0 : WA} {v0 : Option Value} (T : RT Γ (some .boolean) a f v0 w0) (hd : decode cc pc = .ok (.ireturn, 1)) (hb01 : v = 0 ∨ v = 1) (hv : some (.int v) = v0) (hw : w = w0) : XX Γ a pc L [.int v] w f := by
  obtain ⟨p, l, e, R, s, m, args, below, meth, c, Z, B⟩ := Γ
  obtain ⟨hx, hb, ho, hts, hE, hB0, hd1, hd2⟩ := G
  intro H locs ls h1 h2 h3 h4 h5
  obtain ⟨t1, t2, t3⟩ := T
  subst t3; subst hv; subst hw
  exact W.zret hx hb t1 (by rcases hb01 with rfl | rfl <;> rfl) (fun t ht hW => ⟨⟨rfl, by rw [ht]; exact h1⟩, h2.F ht⟩) h2.2.2 hd t2
theorem x_vret (G : GK Γ cc own d) {w0 : WA} (T : RT Γ none a f none w0) (hd : decode cc pc = .ok (.return_, 1)) (hw : w = w0) : XX Γ a pc L [] w f := by
  obtain ⟨p, l, e, R, s, m, args, below, meth, c, Z, B⟩ := Γ
  obtain ⟨hx, hb, ho, hts, hE, hB0, hd1, hd2⟩ := G
  intro H locs ls h1 h2 h3 h4 h5
  obtain ⟨t1, t2, t3⟩ := T
  subst t3; subst hw
  exact W.vret hx hb t1 (fun t ht hW => ⟨⟨rfl, by rw [ht]; exact h1⟩, h2.F ht⟩) h2.2.2 hd t2
theorem x_aret (G : GK Γ cc own d) {i : Nat} {C : String} {w0 : WA} {v0 : Option Value} (T : RT Γ (some (.object C)) a f v0 w0) (hd : decode cc pc = .ok (.areturn, 1)) (hv : some (.ref i) = v0) (hw : w = w0) : XX Γ a pc L [.ref i] w f := by
  obtain ⟨p, l, e, R, s, m, args, below, meth, c, Z, B⟩ := Γ
  obtain ⟨hx, hb, ho, hts, hE, hB0, hd1, hd2⟩ := G
  intro H locs ls h1 h2 h3 h4 h5
  obtain ⟨t1, t2, t3⟩ := T
  subst t3; subst hv; subst hw
  exact W.aret hx hb t1 (Or.inl ⟨_, rfl⟩) (Or.inr ⟨_, rfl⟩) (fun t ht hW => ⟨⟨rfl, by rw [ht]; exact h1⟩, h2.F ht⟩) h2.2.2 hd t2
end RULES
