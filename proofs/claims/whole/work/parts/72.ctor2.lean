/-! THE CONSTRUCTORS RUN: a run that is computed, and why the machine runs so -/
abbrev SI : Type := Nat × LT × List Value × List DC × Nat × Nat
abbrev RR : Type := List DC × Nat × Nat
def PI (B : BT) (r : Nat) (G : List DC) : Array Value → State → Prop := va_Pc [cz B (.ref r)] (fun U => RI B G U.heap ∧ U.heap.size = B.1 + G.length ∧ Ev B U ∧ B.1 ≤ U.heap.size)
def QI (B : BT) (G : List DC) : Array Value → State → Outcome → State → Prop := fun _ st oc t => (oc = .returned none ∧ RI B G t.heap) ∧ va_F (AA B) st t
def OkI (l : Launch) (B : BT) (d m r : Nat) (G G' : List DC) (mc ms : Nat) : Prop := Met l (iY m).1 (.code (iY m).1 (iY m).2.1 (iY m).2.2 none :: gw) (rmD d mc ms) (PI B r G) (QI B G') mc ms (AA B)
theorem PI_blind (B : BT) (r : Nat) (G : List DC) : FrameBlind (PI B r G) := by
  intro a U g mk h
  obtain ⟨h0, h1, h2, h3, h4⟩ := h
  exact ⟨h0, h1, h2, Ev.same rfl rfl h3, h4⟩
theorem PI_pre {B : BT} {r : Nat} {G : List DC} {s : State} {H : Heap} {locs : List Loc} (h1 : RI B G H) (hH : H.size = B.1 + G.length) (h2 : va_S (AA B) s.heap H locs) (hE : Ev B s) (hB : B.1 ≤ s.heap.size) : ∀ U : State, U.heap = H → s.WarmedH U.vm → PI B r G [cz B (.ref r)].toArray U := by
  intro U hU hW
  refine ⟨rfl, by rw [hU]; exact h1, by rw [hU]; exact hH, Ev.moved hW (fun q a b => by rw [hU]; exact h2.2.1 q a b) hE, ?_⟩
  rw [hU]
  exact Nat.le_trans hB h2.1
def RTi : GT → List DC → Nat × Nat → Prop
  | (_, _, _, _, s, _, args, below, meth, _, Z, B), G, a => meth.sig.returnType = none ∧ meth.locks = false ∧ Z = MQ below (QI B G) args s a.1 a.2 (AA B)
section RUNI
variable {Γ : GT} {cc : ByteArray} {own : String} {d : Nat} {a : Nat × Nat} {pc : Nat} {L : List (Option Value)} {S : List Value} {G : List DC}
theorem i_run (K : GK Γ cc own (d + 1)) {z0 : Nat} (hz : SZ Γ z0) (hl : G.length = z0 + a.1) {ix m r mc ms : Nat} {G' : List DC} (hm : m < 9) (hml : Cond.methodLink own ix (iY m).1 ∈ gw) (hO : OkI (gl Γ) (gB Γ) d m r G G' mc ms) (hR : RG Γ (a.1 + mc) (a.2 + ms)) (h8 : cats S ≤ 8) (hd : decode cc pc = .ok (.invokespecial ix, 3)) (kk : XI Γ (a.1 + mc, a.2 + ms) (pc + 3) L S G') : XI Γ a pc L (.ref r :: S) G := by
  obtain ⟨p, l, e, R, s, mi, args, below, meth, c, Z, B⟩ := Γ
  obtain ⟨hx, hb, ho, hts, hE, hB0, hd1, hd2⟩ := K
  obtain ⟨⟨mi1, mi2, mi3, mi4, mi5⟩, i1, i2, i3⟩ := ik_all m hm
  unfold OkI at hO
  dsimp only [gl, gB] at hO
  intro H locs ls h1 h2 h3 h4 h5
  have h1 : RI B G H := RI.of h1
  have hz : s.heap.size = B.1 + z0 := hz
  refine W.hsz (fun hs => ?_)
  have hlo := h1.low (Nat.le_trans hB0 h2.1)
  have hs : H.size ≤ s.heap.size + a.1 := hs
  have hH : H.size = B.1 + G.length := by omega
  have hfr : 8 + ((iY m).2.2 + 11) + 64 * d ≤ R.locals := by omega
  have run := va_runI (p := p) (l := l) (e := e) (R := R) (s := s) (m := mi) (args := args) (below := below) (meth := meth) (c := c) (H := H) (locs := locs) (cells := a.1) (slots := a.2) (b := B.1 + r) (As := []) (rest := S.map (cz B)) (g := F0 mi pc ls ((Value.ref r :: S).map (cz B))) ⟨hx, hb, rfl, ho, hts⟩ hO (cwI 0 hts (gw_cons mi1) rfl rfl rfl (hts _ mi2) (hts _ hml) (hts _ i1) i2 ⟨mi4.1, mi4.2.1, mi4.2.2⟩ ⟨hd1, hfr⟩) ⟨PI_blind _ _ _, PI_pre h1 hH h2 hE hB0⟩ rfl rfl h3.1 rfl (lv_room (by rw [cz_sum, cats_eq]; exact h8)) hd ⟨hR.1, hR.2⟩
  intro T hT X
  obtain ⟨v, st₀, t, T', Lc, h0, X', hL, e1, e2, ⟨⟨hv, hR1⟩, hz1, hk⟩, st⟩ := run T hT X
  cases hv
  rw [h0] at hz1 hk
  have hR2 : RI B G' T'.heap := by rw [e1]; exact hR1
  obtain ⟨t2, a1, b1⟩ := kk T'.heap (locs ++ Lc) ls hR2.rp
    ⟨Nat.le_trans h2.1 (by rw [e1]; exact hz1), fun q q1 q2 => by rw [e1, hk q (Nat.lt_of_lt_of_le q1 h2.1) q2]; exact h2.2.1 q q1 q2, fun q hq => by
      rcases List.mem_append.mp hq with h | h
      · exact h2.2.2 q h
      · exact hL q h⟩ h3 hR.1 hR.2 T' rfl X'
  exact ⟨t2, st t2 a1, b1⟩
theorem i_ret (K : GK Γ cc own d) (T : RTi Γ G a) (hd : decode cc pc = .ok (.return_, 1)) : XI Γ a pc L [] G := by
  obtain ⟨p, l, e, R, s, m, args, below, meth, c, Z, B⟩ := Γ
  obtain ⟨hx, hb, ho, hts, hE, hB0, hd1, hd2⟩ := K
  intro H locs ls h1 h2 h3 h4 h5
  obtain ⟨t1, t2, t3⟩ := T
  subst t3
  have h1 : RI B G H := RI.of h1
  exact W.vret hx hb t1 (fun t ht hW => ⟨⟨rfl, by rw [ht]; exact h1⟩, h2.F ht⟩) h2.2.2 hd t2
end RUNI
def gd (p : Prop) [Decidable p] (x : Option RR) : Option RR := if p then x else none
theorem gd_some {p : Prop} [Decidable p] {x : Option RR} {y : RR} (h : gd p x = some y) : p ∧ x = some y := by
  unfold gd at h
  by_cases hp : p
  · rw [if_pos hp] at h; exact ⟨hp, h⟩
  · rw [if_neg hp] at h; cases h
def stI (oi : Nat) (ins : Instr) (len pc : Nat) (L : LT) (S : List Value) (G : List DC) (c k : Nat) (kont : SI → Option RR) (call : Nat → Nat → SI → Option RR) : Option RR := match ins with
  | .aload_n n => (match L[n.val]? with
    | some (some (.ref r)) => gd (len = 1) (kont (pc + 1, L, .ref r :: S, G, c, k))
    | _ => none)
  | .iload_n n => (match L[n.val]? with
    | some (some (.int r)) => gd (len = 1) (kont (pc + 1, L, .int r :: S, G, c, k))
    | _ => none)
  | .istore_n n => (match S with
    | .int x :: S => gd (len = 1 ∧ (L[n.val]?).isSome = true ∧ okS L n.val = true) (kont (pc + 1, L.set n.val (some (.int x)), S, G, c, k))
    | _ => none)
  | .iconst v => gd (len = 1) (kont (pc + 1, L, .int (Int32.ofInt v) :: S, G, c, k))
  | .bipush v => gd (len = 2) (kont (pc + 2, L, .int (Int8.ofInt v).toInt32 :: S, G, c, k))
  | .sipush v => gd (len = 3) (kont (pc + 3, L, .int (Int16.ofInt v).toInt32 :: S, G, c, k))
  | .dup => (match S with
    | .ref r :: S => gd (len = 1) (kont (pc + 1, L, .ref r :: .ref r :: S, G, c, k))
    | _ => none)
  | .newarray t => (match S, t with
    | .int x :: S, .int => gd (len = 2 ∧ 0 ≤ x ∧ tN x ≤ 100000) (kont (pc + 2, L, .ref G.length :: S, G ++ [.inl (false, tN x, 0)], c + 1, k + tN x))
    | .int x :: S, .boolean => gd (len = 2 ∧ 0 ≤ x ∧ tN x ≤ 100000) (kont (pc + 2, L, .ref G.length :: S, G ++ [.inl (true, tN x, 0)], c + 1, k + tN x))
    | _, _ => none)
  | .new ix => (match KLl.find? (fun q => q.1 == oi && q.2.1 == ix) with
    | some q => gd (len = 3 ∧ q.2.2 < 9) (kont (pc + 3, L, .ref G.length :: S, G ++ [.inr (.inr (q.2.2, dfl q.2.2))], c + 1, k + (dfl q.2.2).length))
    | none => none)
  | .anewarray ix => (match S with
    | .int x :: S => gd (len = 3 ∧ (oi, ix, 2) ∈ KLl ∧ 0 ≤ x ∧ tN x ≤ 100000) (kont (pc + 3, L, .ref G.length :: S, G ++ [.inr (.inl (List.replicate (tN x) none))], c + 1, k + tN x))
    | _ => none)
  | .putfield ix => (match S with
    | .ref j :: .ref i :: S => (match G[i]?, (FL oi).find? (fun q => q.1 == ix) with
      | some (.inr (.inr (ci, fs))), some q => gd (len = 3 ∧ q.2 / 32 = ci ∧ ci = oi ∧ (ci, q.2 % 32) ∈ rfl9 ∧ q.2 % 32 < fs.length) (kont (pc + 3, L, S, G.set i (.inr (.inr (ci, fs.set (q.2 % 32) (.ref j)))), c, k))
      | _, _ => none)
    | _ => none)
  | .getfield ix => (match S with
    | .ref i :: S => (match G[i]?, (FL oi).find? (fun q => q.1 == ix) with
      | some (.inr (.inr (ci, fs))), some q => (match fs[q.2 % 32]? with
        | some (.ref r) => gd (len = 3 ∧ q.2 / 32 = ci) (kont (pc + 3, L, .ref r :: S, G, c, k))
        | _ => none)
      | _, _ => none)
    | _ => none)
  | .iastore => (match S with
    | .int v :: .int x :: .ref i :: S => (match G[i]? with
      | some (.inl (false, n, m)) => gd (len = 1 ∧ v = -1 ∧ x = nI m ∧ m < n ∧ n < 2147483648) (kont (pc + 1, L, S, G.set i (.inl (false, n, m + 1)), c, k))
      | _ => none)
    | _ => none)
  | .aastore => (match S with
    | .ref r :: .int x :: .ref i :: S => (match G[i]?, G[r]? with
      | some (.inr (.inl l)), some (.inr (.inr (ci, _))) => gd (len = 1 ∧ ci = 2 ∧ 0 ≤ x ∧ tN x < l.length) (kont (pc + 1, L, S, G.set i (.inr (.inl (l.set (tN x) (some r)))), c, k))
      | _, _ => none)
    | _ => none)
  | .if_icmp .ge off => (match S with
    | .int y :: .int x :: S => gd (len = 3 ∧ 0 ≤ (pc : Int) + off) (if y ≤ x then kont (((pc : Int) + off).toNat, L, S, G, c, k) else kont (pc + 3, L, S, G, c, k))
    | _ => none)
  | .iinc i v => (match L[i]? with
    | some (some (.int x)) => gd (len = 3 ∧ okS L i = true) (kont (pc + 3, L.set i (some (.int (x + Int32.ofInt v))), S, G, c, k))
    | _ => none)
  | .goto off => gd (len = 3 ∧ 0 ≤ (pc : Int) + off) (kont (((pc : Int) + off).toNat, L, S, G, c, k))
  | .invokespecial ix => (match S with
    | .ref r :: S => (match ILl.find? (fun q => q.1 == oi && q.2.1 == ix) with
      | some q => gd (len = 3 ∧ q.2.2 < 9 ∧ cats S ≤ 8) (call q.2.2 r (pc + 3, L, S, G, c, k))
      | none => gd (len = 3 ∧ (oi, ix, 0) ∈ OIl ∧ cats S ≤ 8) (kont (pc + 3, L, S, G, c, k)))
    | _ => none)
  | .return_ => (match S with
    | [] => gd (len = 1) (some (G, c, k))
    | _ => none)
  | _ => none
def ev : Nat → Nat → Nat → SI → Option RR
  | 0, _, _, _ => none
  | n + 1, d, oi, (pc, L, S, G, c, k) => match decode (iY oi).2.1 pc with
    | .ok (ins, len) => gd (0 < d) (stI oi ins len pc L S G c k (ev n d oi) (fun m r q => match ev n (d - 1) m (0, initL [.ref r] (iY m).2.2, [], G, 0, 0) with
      | some (G', c', k') => ev n d oi (q.1, q.2.1, q.2.2.1, G', c + c', k + k')
      | none => none))
    | _ => none
def SND (l : Launch) (B : BT) (n : Nat) : Prop := ∀ (d oi pc : Nat) (L : LT) (S : List Value) (G : List DC) (c k : Nat) (G' : List DC) (c' k' : Nat), oi < 9 → ev n d oi (pc, L, S, G, c, k) = some (G', c', k') → c ≤ c' ∧ k ≤ k' ∧ G'.length + c = G.length + c' ∧ ∀ (Γ : GT) (z0 : Nat), gl Γ = l → gB Γ = B → GK Γ (iY oi).2.1 (ownS oi) d → NM Γ "<init>" → SZ Γ z0 → G.length = z0 + c → RG Γ c' k' → RTi Γ G' (c', k') → XI Γ (c, k) pc L S G
theorem RG.le {Γ : GT} {c k c' k' : Nat} (h : RG Γ c' k') (h1 : c ≤ c') (h2 : k ≤ k') : RG Γ c k := by
  obtain ⟨p, l, e, R, s, m, args, below, meth, cd, Z, B⟩ := Γ
  exact ⟨Nat.le_trans h1 h.1, Nat.le_trans h2 h.2⟩
theorem find_mem {l : List (Nat × Nat × Nat)} {a b : Nat} {q : Nat × Nat × Nat} (h : l.find? (fun q => q.1 == a && q.2.1 == b) = some q) : q ∈ l ∧ q.1 = a ∧ q.2.1 = b := by
  have h1 := List.find?_some h
  simp only [Bool.and_eq_true, beq_iff_eq] at h1
  exact ⟨List.mem_of_find?_eq_some h, h1.1, h1.2⟩
theorem find_mem2 {l : List (Nat × Nat)} {a : Nat} {q : Nat × Nat} (h : l.find? (fun q => q.1 == a) = some q) : q ∈ l ∧ q.1 = a := by
  have h1 := List.find?_some h
  simp only [beq_iff_eq] at h1
  exact ⟨List.mem_of_find?_eq_some h, h1⟩
/-- a constructor's contract out of its run -/
theorem SND.ok {l : Launch} {B : BT} {n : Nat} (h : SND l B n) {d m r : Nat} {G G' : List DC} {mc ms : Nat} (hm : m < 9) (he : ev n d m (0, initL [.ref r] (iY m).2.2, [], G, 0, 0) = some (G', mc, ms)) : OkI l B d m r G G' mc ms ∧ G'.length = G.length + mc := by
  obtain ⟨-, -, b3, b4⟩ := h d m 0 _ _ G 0 0 G' mc ms hm he
  obtain ⟨⟨mi1, mi2, mi3, mi4, mi5⟩, i1, i2, i3⟩ := ik_all m hm
  refine ⟨?_, b3⟩
  unfold OkI
  refine Met.ofW (cc := (iY m).2.1) (maxL := (iY m).2.2) (ret := none) mi3 rfl ?_
  intro p e s mm args below meth c s₁ B0 hml hv
  obtain ⟨rfl, h1, h2, h3, h4⟩ := hv
  have hts := atoms_spec (ws := .code (iY m).1 (iY m).2.1 (iY m).2.2 none :: gw) B0.pre
  have key := b4 (p, l, e, rmD d mc ms, s, mm, ([Value.ref r].map (cz B)).toArray, below, meth, c, MQ below (QI B G') ([Value.ref r].map (cz B)).toArray s mc ms (AA B), B) G.length rfl rfl
    ⟨B0.exec, B0.bytes, by rw [← i3]; exact findClass_of_methodNamed B0.named, fun w hw => hts w (List.mem_cons_of_mem _ hw), h3, h4, Nat.le_refl _, Nat.le_refl _⟩ (by rw [← i2]; exact (name_of_methodNamed B0.named B0.method).1) h2 rfl ⟨Nat.le_refl _, Nat.le_refl _⟩ ⟨B0.returns, B0.notSynchronized, rfl⟩
  rw [lg_entry_eq]
  have hn : (aL [Value.ref r]).length ≤ (iY m).2.2 := by
    unfold iY
    split <;> exact Nat.le_of_ble_eq_true rfl
  exact key s.heap [] _ h1.rp va_S.rf (by rw [hml]; exact lL.entry (As := [Value.ref r]) rfl hn) (Nat.zero_le _) (Nat.zero_le _)
set_option maxHeartbeats 2000000 in
theorem ev_ok (l : Launch) (B : BT) : ∀ n, SND l B n := by
  intro n
  induction n with
  | zero => intro d oi pc L S G c k G' c' k' _ h; cases h
  | succ n ih =>
    intro d oi pc L S G c k G' c' k' hoi h
    rw [ev] at h
    split at h
    rotate_left
    · cases h
    rename_i ins len hd
    obtain ⟨hd0, h⟩ := gd_some h
    unfold stI at h
    split at h
    · split at h
      · obtain ⟨hlen, h2⟩ := gd_some h
        subst hlen
        obtain ⟨b1, b2, b3, b4⟩ := ih _ _ _ _ _ _ _ _ _ _ _ hoi h2
        exact ⟨b1, b2, b3, fun Γ z0 e1 e2 K N Z Zl R T => x_aload_n K hd rfl (by assumption) (b4 Γ z0 e1 e2 K N Z Zl R T)⟩
      · cases h
    · split at h
      · obtain ⟨hlen, h2⟩ := gd_some h
        subst hlen
        obtain ⟨b1, b2, b3, b4⟩ := ih _ _ _ _ _ _ _ _ _ _ _ hoi h2
        exact ⟨b1, b2, b3, fun Γ z0 e1 e2 K N Z Zl R T => x_iload_n K hd rfl (by assumption) (b4 Γ z0 e1 e2 K N Z Zl R T)⟩
      · cases h
    · split at h
      · obtain ⟨⟨hlen, g1, g2⟩, h2⟩ := gd_some h
        subst hlen
        obtain ⟨b1, b2, b3, b4⟩ := ih _ _ _ _ _ _ _ _ _ _ _ hoi h2
        exact ⟨b1, b2, b3, fun Γ z0 e1 e2 K N Z Zl R T => x_istore_n K hd rfl g1 g2 (b4 Γ z0 e1 e2 K N Z Zl R T)⟩
      · cases h
    · obtain ⟨hlen, h2⟩ := gd_some h
      subst hlen
      obtain ⟨b1, b2, b3, b4⟩ := ih _ _ _ _ _ _ _ _ _ _ _ hoi h2
      exact ⟨b1, b2, b3, fun Γ z0 e1 e2 K N Z Zl R T => x_iconst K hd rfl (b4 Γ z0 e1 e2 K N Z Zl R T)⟩
    · obtain ⟨hlen, h2⟩ := gd_some h
      subst hlen
      obtain ⟨b1, b2, b3, b4⟩ := ih _ _ _ _ _ _ _ _ _ _ _ hoi h2
      exact ⟨b1, b2, b3, fun Γ z0 e1 e2 K N Z Zl R T => x_bipush K hd rfl (b4 Γ z0 e1 e2 K N Z Zl R T)⟩
    · obtain ⟨hlen, h2⟩ := gd_some h
      subst hlen
      obtain ⟨b1, b2, b3, b4⟩ := ih _ _ _ _ _ _ _ _ _ _ _ hoi h2
      exact ⟨b1, b2, b3, fun Γ z0 e1 e2 K N Z Zl R T => x_sipush K hd rfl (b4 Γ z0 e1 e2 K N Z Zl R T)⟩
    · split at h
      · obtain ⟨hlen, h2⟩ := gd_some h
        subst hlen
        obtain ⟨b1, b2, b3, b4⟩ := ih _ _ _ _ _ _ _ _ _ _ _ hoi h2
        exact ⟨b1, b2, b3, fun Γ z0 e1 e2 K N Z Zl R T => x_dup K hd rfl (b4 Γ z0 e1 e2 K N Z Zl R T)⟩
      · cases h
    · split at h
      · obtain ⟨⟨hlen, g1, g2⟩, h2⟩ := gd_some h
        subst hlen
        obtain ⟨b1, b2, b3, b4⟩ := ih _ _ _ _ _ _ _ _ _ _ _ hoi h2
        rw [List.length_append, List.length_singleton] at b3
        exact ⟨by omega, by omega, by omega, fun Γ z0 e1 e2 K N Z Zl R T => i_newi K Z Zl g1 g2 (R.le b1 b2) hd (b4 Γ z0 e1 e2 K N Z (by rw [List.length_append, List.length_singleton]; omega) R T)⟩
      · obtain ⟨⟨hlen, g1, g2⟩, h2⟩ := gd_some h
        subst hlen
        obtain ⟨b1, b2, b3, b4⟩ := ih _ _ _ _ _ _ _ _ _ _ _ hoi h2
        rw [List.length_append, List.length_singleton] at b3
        exact ⟨by omega, by omega, by omega, fun Γ z0 e1 e2 K N Z Zl R T => i_newz K Z Zl g1 g2 (R.le b1 b2) hd (b4 Γ z0 e1 e2 K N Z (by rw [List.length_append, List.length_singleton]; omega) R T)⟩
      · cases h
    · split at h
      · rename_i q hq
        obtain ⟨⟨hlen, g1⟩, h2⟩ := gd_some h
        subst hlen
        obtain ⟨f1, f2, f3⟩ := find_mem hq
        obtain ⟨b1, b2, b3, b4⟩ := ih _ _ _ _ _ _ _ _ _ _ _ hoi h2
        rw [List.length_append, List.length_singleton] at b3
        have hk := KLl_ok q f1
        rw [f2, f3] at hk
        exact ⟨by omega, by omega, by omega, fun Γ z0 e1 e2 K N Z Zl R T => i_new K Z Zl g1 hk (R.le b1 b2) hd (b4 Γ z0 e1 e2 K N Z (by rw [List.length_append, List.length_singleton]; omega) R T)⟩
      · cases h
    · split at h
      · obtain ⟨⟨hlen, g0, g1, g2⟩, h2⟩ := gd_some h
        subst hlen
        obtain ⟨b1, b2, b3, b4⟩ := ih _ _ _ _ _ _ _ _ _ _ _ hoi h2
        rw [List.length_append, List.length_singleton] at b3
        exact ⟨by omega, by omega, by omega, fun Γ z0 e1 e2 K N Z Zl R T => i_newq K Z Zl (KLl_ok _ g0) g1 g2 (R.le b1 b2) hd (b4 Γ z0 e1 e2 K N Z (by rw [List.length_append, List.length_singleton]; omega) R T)⟩
      · cases h
    · split at h
      · split at h
        · rename_i q hG hq
          obtain ⟨⟨hlen, g1, g2, g3, g4⟩, h2⟩ := gd_some h
          subst hlen
          obtain ⟨f1, f2⟩ := find_mem2 hq
          obtain ⟨b1, b2, b3, b4⟩ := ih _ _ _ _ _ _ _ _ _ _ _ hoi h2
          rw [List.length_set] at b3
          have hk := FL_ok oi q f1
          have hr := rfl9_ok _ g3
          rw [f2, g1] at hk
          subst g2
          exact ⟨b1, b2, b3, fun Γ z0 e1 e2 K N Z Zl R T => i_put K N hk hr hG g4 hd (b4 Γ z0 e1 e2 K N Z (by rw [List.length_set]; exact Zl) R T)⟩
        · cases h
      · cases h
    · split at h
      · split at h
        · rename_i q hG hq
          split at h
          · rename_i hv
            obtain ⟨⟨hlen, g1⟩, h2⟩ := gd_some h
            subst hlen
            obtain ⟨f1, f2⟩ := find_mem2 hq
            obtain ⟨b1, b2, b3, b4⟩ := ih _ _ _ _ _ _ _ _ _ _ _ hoi h2
            have hk := FL_ok oi q f1
            rw [f2, g1] at hk
            exact ⟨b1, b2, b3, fun Γ z0 e1 e2 K N Z Zl R T => i_get K hk hG hv hd (b4 Γ z0 e1 e2 K N Z Zl R T)⟩
          · cases h
        · cases h
      · cases h
    · split at h
      · split at h
        · rename_i hG
          obtain ⟨⟨hlen, hvv, g2, g3, g4⟩, h2⟩ := gd_some h
          subst hlen
          subst hvv
          obtain ⟨b1, b2, b3, b4⟩ := ih _ _ _ _ _ _ _ _ _ _ _ hoi h2
          rw [List.length_set] at b3
          exact ⟨b1, b2, b3, fun Γ z0 e1 e2 K N Z Zl R T => i_iast K hG g2 g3 g4 hd (b4 Γ z0 e1 e2 K N Z (by rw [List.length_set]; exact Zl) R T)⟩
        · cases h
      · cases h
    · split at h
      · split at h
        · rename_i hG hr
          obtain ⟨⟨hlen, hvv, g2, g3⟩, h2⟩ := gd_some h
          subst hlen
          subst hvv
          obtain ⟨b1, b2, b3, b4⟩ := ih _ _ _ _ _ _ _ _ _ _ _ hoi h2
          rw [List.length_set] at b3
          exact ⟨b1, b2, b3, fun Γ z0 e1 e2 K N Z Zl R T => i_aast K hG hr g2 g3 hd (b4 Γ z0 e1 e2 K N Z (by rw [List.length_set]; exact Zl) R T)⟩
        · cases h
      · cases h
    · split at h
      · rename_i x y S1
        obtain ⟨⟨hlen, g1⟩, h2⟩ := gd_some h
        subst hlen
        split at h2
        · rename_i hxy
          obtain ⟨b1, b2, b3, b4⟩ := ih _ _ _ _ _ _ _ _ _ _ _ hoi h2
          exact ⟨b1, b2, b3, fun Γ z0 e1 e2 K N Z Zl R T => x_icmp_ge K _ hd (Int.toNat_of_nonneg g1).symm (fun _ => b4 Γ z0 e1 e2 K N Z Zl R T) (fun q => absurd hxy q)⟩
        · rename_i hxy
          obtain ⟨b1, b2, b3, b4⟩ := ih _ _ _ _ _ _ _ _ _ _ _ hoi h2
          exact ⟨b1, b2, b3, fun Γ z0 e1 e2 K N Z Zl R T => x_icmp_ge K _ hd (Int.toNat_of_nonneg g1).symm (fun q => absurd q hxy) (fun _ => b4 Γ z0 e1 e2 K N Z Zl R T)⟩
      · cases h
    · split at h
      · rename_i hL
        obtain ⟨⟨hlen, g1⟩, h2⟩ := gd_some h
        subst hlen
        obtain ⟨b1, b2, b3, b4⟩ := ih _ _ _ _ _ _ _ _ _ _ _ hoi h2
        exact ⟨b1, b2, b3, fun Γ z0 e1 e2 K N Z Zl R T => x_iinc K hd hL rfl g1 (b4 Γ z0 e1 e2 K N Z Zl R T)⟩
      · cases h
    · obtain ⟨⟨hlen, g1⟩, h2⟩ := gd_some h
      subst hlen
      obtain ⟨b1, b2, b3, b4⟩ := ih _ _ _ _ _ _ _ _ _ _ _ hoi h2
      exact ⟨b1, b2, b3, fun Γ z0 e1 e2 K N Z Zl R T => x_goto K _ hd (Int.toNat_of_nonneg g1).symm (b4 Γ z0 e1 e2 K N Z Zl R T)⟩
    · obtain ⟨d, rfl⟩ : ∃ z, d = z + 1 := ⟨d - 1, by omega⟩
      split at h
      · split at h
        · rename_i q hq
          obtain ⟨⟨hlen, g1, g2⟩, h2⟩ := gd_some h
          subst hlen
          obtain ⟨f1, f2, f3⟩ := find_mem hq
          rw [Nat.add_sub_cancel] at h2
          dsimp only at h2
          split at h2
          · rename_i G1 c1 k1 he
            obtain ⟨hO, hlen⟩ := ih.ok g1 he
            obtain ⟨b1, b2, b3, b4⟩ := ih _ _ _ _ _ _ _ _ _ _ _ hoi h2
            have hk := ILl_ok q f1
            rw [f2, f3] at hk
            exact ⟨by omega, by omega, by omega, fun Γ z0 e1 e2 K N Z Zl R T => i_run K Z Zl g1 hk (by rw [e1, e2]; exact hO) (R.le b1 b2) g2 hd (b4 Γ z0 e1 e2 K N Z (by omega) R T)⟩
          · cases h2
        · obtain ⟨⟨hlen, g1, g2⟩, h2⟩ := gd_some h
          subst hlen
          obtain ⟨b1, b2, b3, b4⟩ := ih _ _ _ _ _ _ _ _ _ _ _ hoi h2
          exact ⟨b1, b2, b3, fun Γ z0 e1 e2 K N Z Zl R T => x_objinit K hd (OIl_ok _ g1) oi_inst oi_code (by rw [cats_eq]; exact g2) (b4 Γ z0 e1 e2 K N Z Zl R T)⟩
      · cases h
    · split at h
      · obtain ⟨hlen, h2⟩ := gd_some h
        subst hlen
        cases h2
        exact ⟨Nat.le_refl _, Nat.le_refl _, rfl, fun Γ z0 e1 e2 K N Z Zl R T => i_ret K T hd⟩
      · cases h
    · cases h
