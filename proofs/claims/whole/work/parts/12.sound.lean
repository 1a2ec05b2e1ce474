/-! inversions -/
theorem ldI_inv {L : LT} {i : Nat} {f : Int32 → Prop} (h : ldI L i f) : ∃ x, L[i]? = some (some (.int x)) ∧ f x := by
  unfold ldI at h
  rw [nth_eq] at h
  split at h
  · exact ⟨_, by assumption, h⟩
  · exact h.elim
theorem ldJ_inv {L : LT} {i : Nat} {f : Int64 → Prop} (h : ldJ L i f) : ∃ x, L[i]? = some (some (.long x)) ∧ f x := by
  unfold ldJ at h
  rw [nth_eq] at h
  split at h
  · exact ⟨_, by assumption, h⟩
  · exact h.elim
theorem ldA_inv {L : LT} {i : Nat} {f : Value → Prop} (h : ldA L i f) : (∃ x, L[i]? = some (some (.ref x)) ∧ f (.ref x)) ∨ ∃ x, L[i]? = some (some (.float x)) ∧ f (.float x) := by
  unfold ldA at h
  rw [nth_eq] at h
  split at h
  · exact Or.inl ⟨_, by assumption, h⟩
  · exact Or.inr ⟨_, by assumption, h⟩
  · exact h.elim
theorem setK_inv : ∀ {L : LT} {i : Nat} {v : Option Value} {f : LT → Prop}, setK L i v f → (L[i]?).isSome = true ∧ f (L.set i v) := by
  intro L
  induction L with
  | nil => intro i v f h; exact h.elim
  | cons a l ih =>
    intro i v f h
    cases i with
    | zero => exact ⟨rfl, h⟩
    | succ i =>
      obtain ⟨h1, h2⟩ := ih (show setK l i v (fun l' => f (a :: l')) from h)
      exact ⟨by rw [List.getElem?_cons_succ]; exact h1, h2⟩
theorem stL_inv {L : LT} {i : Nat} {v : Value} {f : LT → Prop} (h : stL L i v f) : okS L i = true ∧ (L[i]?).isSome = true ∧ f (L.set i (some v)) := by
  unfold stL at h
  split at h
  · exact ⟨by assumption, setK_inv h⟩
  · exact h.elim
theorem stJ_inv {L : LT} {i : Nat} {v : Int64} {f : LT → Prop} (h : stJ L i v f) : okS L i = true ∧ (L[i + 1]?).isSome = true ∧ f ((L.set i (some (.long v))).set (i + 1) none) := by
  unfold stJ at h
  split at h
  · have h1 := setK_inv h
    have h2 := setK_inv h1.2
    refine ⟨by assumption, ?_, h2.2⟩
    have := h2.1
    rw [List.getElem?_set_ne (by omega)] at this
    exact this
  · exact h.elim
theorem pI_inv {S : List Value} {f : Int32 → List Value → Prop} (h : pI S f) : ∃ x S', S = .int x :: S' ∧ f x S' := by
  unfold pI at h
  split at h
  · exact ⟨_, _, rfl, h⟩
  · exact h.elim
theorem pJ_inv {S : List Value} {f : Int64 → List Value → Prop} (h : pJ S f) : ∃ x S', S = .long x :: S' ∧ f x S' := by
  unfold pJ at h
  split at h
  · exact ⟨_, _, rfl, h⟩
  · exact h.elim
theorem pA_inv {S : List Value} {f : Nat → List Value → Prop} (h : pA S f) : ∃ x S', S = .ref x :: S' ∧ f x S' := by
  unfold pA at h
  split at h
  · exact ⟨_, _, rfl, h⟩
  · exact h.elim
theorem pII_inv {S : List Value} {f : Int32 → Int32 → List Value → Prop} (h : pII S f) : ∃ y x S', S = .int y :: .int x :: S' ∧ f y x S' := by
  unfold pII at h
  split at h
  · exact ⟨_, _, _, rfl, h⟩
  · exact h.elim
theorem pJJ_inv {S : List Value} {f : Int64 → Int64 → List Value → Prop} (h : pJJ S f) : ∃ y x S', S = .long y :: .long x :: S' ∧ f y x S' := by
  unfold pJJ at h
  split at h
  · exact ⟨_, _, _, rfl, h⟩
  · exact h.elim
theorem popN_inv : ∀ {n : Nat} {S acc : List Value} {f : List Value → List Value → Prop}, popN n S acc f → ∃ P S', S = P ++ S' ∧ P.length = n ∧ f (P.reverse ++ acc) S' := by
  intro n
  induction n with
  | zero => intro S acc f h; exact ⟨[], S, rfl, rfl, h⟩
  | succ n ih =>
    intro S acc f h
    cases S with
    | nil => exact h.elim
    | cons v S =>
      obtain ⟨P, S', h1, h2, h3⟩ := ih (show popN n S (v :: acc) f from h)
      exact ⟨v :: P, S', by rw [h1]; rfl, by simp [h2], by simpa using h3⟩
theorem cats_eq : ∀ S : List Value, (S.map fun v => v.category).sum = cats S := by
  intro S
  induction S with
  | nil => rfl
  | cons v S ih => rw [List.map_cons, List.sum_cons, ih]; rfl
theorem retK_eq {v : Option Value} {S : List Value} {f : List Value → Prop} (h : retK v S f) : f (v.toList ++ S) := by
  cases v <;> exact h
theorem isO_inv {v : Value} {ci : Nat} (h : isO v ci = true) : ∃ r fs, v = .ref r ∧ shp r = some (.inr (.inr (ci, fs))) := by
  unfold isO at h
  split at h
  · split at h
    · rename_i c fs hs
      have : c = ci := Nat.eq_of_beq_eq_true h
      subst this
      exact ⟨_, _, rfl, hs⟩
    · cases h
  · cases h
theorem getK_inv {a b : Nat} {S : List Value} {M : MT} {k : List Value → Prop} (h : getK a b S M k) : ∃ r S' fs, S = .ref r :: S' ∧ shp r = some (.inr (.inr (a, fs))) ∧ ((fs[b]? = some none ∧ k (.int (M r b) :: S')) ∨ ∃ c, fs[b]? = some (some c) ∧ k (.ref c :: S')) := by
  unfold getK at h
  split at h
  · split at h
    · rename_i ci fs hs
      split at h
      · rename_i hb
        have hc : ci = a := Nat.eq_of_beq_eq_true hb
        subst hc
        rw [nth_eq] at h
        split at h
        · exact ⟨_, _, _, rfl, hs, Or.inl ⟨by assumption, h⟩⟩
        · exact ⟨_, _, _, rfl, hs, Or.inr ⟨_, by assumption, h⟩⟩
        · exact h.elim
      · exact h.elim
    · exact h.elim
  · exact h.elim
theorem putK_inv {a b : Nat} {S : List Value} {M : MT} {k : List Value → MT → Prop} (h : putK a b S M k) : ∃ x r S' fs, S = .int x :: .ref r :: S' ∧ shp r = some (.inr (.inr (a, fs))) ∧ fs[b]? = some none ∧ k S' (wr M r b x) := by
  unfold putK at h
  split at h
  · split at h
    · rename_i ci fs hs
      split at h
      · rename_i hb
        have hc : ci = a := Nat.eq_of_beq_eq_true hb
        subst hc
        rw [nth_eq] at h
        split at h
        · exact ⟨_, _, _, _, rfl, hs, by assumption, h⟩
        · exact h.elim
      · exact h.elim
    · exact h.elim
  · exact h.elim
theorem fl_eq {q : UInt32} {n : Nat} (h : q.toNat = n) (hn : n < 4294967296) : q = UInt32.ofNat n := by
  apply UInt32.toNat_inj.mp
  rw [h]
  simp [UInt32.toNat_ofNat']
  omega
theorem aldK_inv {sc : ST} {S : List Value} {M : MT} {k : List Value → Prop} (h : aldK sc S M k) : (∃ x r S' n, S = .int x :: .ref r :: S' ∧ shp r = some (.inl (false, n)) ∧ ∃ j : Nat, x = nI j ∧ j < n ∧ k (.int (M r j) :: S')) ∨ (∃ x S' n g, S = .int x :: .float 0 :: S' ∧ sc = some (n, g) ∧ ∃ j : Nat, x = nI j ∧ j < n ∧ k (.int (g j) :: S')) ∨ (∃ x S', S = .int x :: .float 1 :: S' ∧ ∃ j : Nat, x = nI j ∧ j < 6 ∧ k (.int (sizeB j) :: S')) ∨ (∃ x S', S = .int x :: .float 2 :: S' ∧ ∃ j : Nat, x = nI j ∧ j < 6 ∧ k (.int (markB j) :: S')) := by
  unfold aldK at h
  split at h
  · split at h
    · exact Or.inl ⟨_, _, _, _, rfl, by assumption, h⟩
    · exact h.elim
  · split at h
    · rename_i hq
      split at h
      · exact Or.inr (Or.inl ⟨_, _, _, _, by rw [fl_eq hq (by omega)]; rfl, rfl, h⟩)
      · exact h.elim
    · rename_i hq
      exact Or.inr (Or.inr (Or.inl ⟨_, _, by rw [fl_eq hq (by omega)]; rfl, h⟩))
    · rename_i hq
      exact Or.inr (Or.inr (Or.inr ⟨_, _, by rw [fl_eq hq (by omega)]; rfl, h⟩))
    · exact h.elim
  · exact h.elim
theorem alenK_inv {sc : ST} {S : List Value} {k : List Value → Prop} (h : alenK sc S k) : ∃ S' n g, S = .float 0 :: S' ∧ sc = some (n, g) ∧ k (.int (nI n) :: S') := by
  unfold alenK at h
  split at h
  · split at h
    · rename_i hq
      split at h
      · exact ⟨_, _, _, by rw [fl_eq hq (by omega)]; rfl, rfl, h⟩
      · exact h.elim
    · exact h.elim
  · exact h.elim
theorem astK_inv {S : List Value} {M : MT} {k : List Value → MT → Prop} (h : astK S M k) : ∃ v x r S' n, S = .int v :: .int x :: .ref r :: S' ∧ shp r = some (.inl (false, n)) ∧ ∃ j : Nat, x = nI j ∧ j < n ∧ k S' (wr M r j v) := by
  unfold astK at h
  split at h
  · split at h
    · exact ⟨_, _, _, _, _, rfl, by assumption, h⟩
    · exact h.elim
  · exact h.elim
theorem zldK_inv {S : List Value} {M : MT} {k : List Value → Prop} (h : zldK S M k) : ∃ x r S' n, S = .int x :: .ref r :: S' ∧ shp r = some (.inl (true, n)) ∧ ∃ j : Nat, x = nI j ∧ j < n ∧ k (.int (M r j) :: S') := by
  unfold zldK at h
  split at h
  · split at h
    · exact ⟨_, _, _, _, rfl, by assumption, h⟩
    · exact h.elim
  · exact h.elim
theorem zstK_inv {S : List Value} {M : MT} {k : List Value → MT → Prop} (h : zstK S M k) : ∃ v x r S' n, S = .int v :: .int x :: .ref r :: S' ∧ shp r = some (.inl (true, n)) ∧ ∃ j : Nat, x = nI j ∧ j < n ∧ k S' (wr M r j (vp_nar .boolean v)) := by
  unfold zstK at h
  split at h
  · split at h
    · exact ⟨_, _, _, _, _, rfl, by assumption, h⟩
    · exact h.elim
  · exact h.elim
theorem qldK_inv {S : List Value} {k : List Value → Prop} (h : qldK S k) : ∃ x r S' l, S = .int x :: .ref r :: S' ∧ shp r = some (.inr (.inl l)) ∧ ∃ j c : Nat, x = nI j ∧ nth l j = some c ∧ k (.ref c :: S') := by
  unfold qldK at h
  split at h
  · split at h
    · exact ⟨_, _, _, _, rfl, by assumption, h⟩
    · exact h.elim
  · exact h.elim
theorem cpyK_inv {d : Nat} {S : List Value} {M : MT} {k : List Value → MT → Prop} (h : cpyK d S M k) : ∃ xn xd i1 xs i0 S' n0 n1, S = .int xn :: .int xd :: .ref i1 :: .int xs :: .ref i0 :: S' ∧ shp i0 = some (.inl (false, n0)) ∧ shp i1 = some (.inl (false, n1)) ∧ Nat.ble (cats S') 8 = true ∧ 0 < d ∧ ∃ sp dp n : Nat, xs = nI sp ∧ xd = nI dp ∧ xn = nI n ∧ sp + n ≤ n0 ∧ dp + n ≤ n1 ∧ k S' (cp M i0 i1 sp dp n) := by
  unfold cpyK at h
  split at h
  · split at h
    · exact ⟨_, _, _, _, _, _, _, _, rfl, by assumption, by assumption, by assumption, h⟩
    · exact h.elim
  · exact h.elim
theorem absK_inv {d : Nat} {S : List Value} {k : List Value → Prop} (h : absK d S k) : ∃ x S', S = .int x :: S' ∧ Nat.ble (cats S') 8 = true ∧ 0 < d ∧ k (.int (abs32 x) :: S') := by
  unfold absK at h
  split at h
  · split at h
    · exact ⟨_, _, rfl, by assumption, h⟩
    · exact h.elim
  · exact h.elim
theorem swK_at {f : Nat → Prop} {pc : Nat} {x : Int32} : ∀ {offs : List Int} {lo : Int}, swK f pc x offs lo → ∀ (i : Nat) (off : Int), offs[i]? = some off → x.toInt = lo + i → f ((pc : Int) + off).toNat := by
  intro offs
  induction offs with
  | nil => intro lo _ i off h; cases h
  | cons a t ih =>
    intro lo h i off hi hx
    cases i with
    | zero =>
      rw [List.getElem?_cons_zero] at hi
      cases hi
      exact h.1 (by simpa using hx)
    | succ i =>
      rw [List.getElem?_cons_succ] at hi
      exact ih h.2 i off hi (by rw [hx]; push_cast; omega)
theorem lkK_off {f : Nat → Prop} {pc : Nat} {x : Int32} {dflt : Int} : ∀ {ps : List (Int × Int)}, lkK f pc x ps → ((∀ q ∈ ps, ¬ x.toInt = q.1) → f ((pc : Int) + dflt).toNat) → f ((pc : Int) + Op.lookupswitch.offset ps dflt x.toInt).toNat ∧ (Op.lookupswitch.offset ps dflt x.toInt = dflt ∨ Op.lookupswitch.offset ps dflt x.toInt ∈ ps.map (·.2)) := by
  intro ps
  induction ps with
  | nil => intro _ h; exact ⟨h (fun _ q => by cases q), Or.inl rfl⟩
  | cons a t ih =>
    intro h hd
    obtain ⟨key, off⟩ := a
    rw [Op.lookupswitch.offset_cons]
    by_cases e : key = x.toInt
    · rw [if_pos e]
      exact ⟨h.1 e.symm, Or.inr List.mem_cons_self⟩
    · rw [if_neg e]
      obtain ⟨h1, h2⟩ := ih h.2 (fun q => hd (fun y hy => by
        rcases List.mem_cons.mp hy with rfl | hy
        · exact fun z => e z.symm
        · exact q y hy))
      refine ⟨h1, ?_⟩
      rcases h2 with h2 | h2
      · exact Or.inl h2
      · exact Or.inr (List.mem_cons_of_mem _ h2)
/-! calls -/
section CALLS
variable {p : Program} {l : Launch} {e : Env} {R : Room} {s : State} {m : MethodId} {args : Array Value} {below : List Frame} {meth : Method} {c : Code} {H : Heap} {locs : List Loc} {cells slots : Nat} {Q : State → Prop}
theorem va_callK {pc : Nat} {ls : Array Slot} {rest st0 : List Value} {av : Array Value} {B : BT} {K : KT} (hr : va_Run p l e R s m args below meth c H locs cells slots 0 0 (F0 m pc ls st0) rest (QM B K av) (AA B)) (hS : va_S (AA B) s.heap H locs)
    (kk : ∀ (v : Option Value) (M' : MT) (H1 : Heap) (locs1 : List Loc), K v M' → RM B M' H1 → va_S (AA B) s.heap H1 locs1 → W p l e R s m args below meth c H1 locs1 cells slots Q (F0 m (pc + 3) ls ((v.map (cz B)).toList ++ rest))) : W p l e R s m args below meth c H locs cells slots Q (F0 m pc ls st0) := by
  intro T hT X
  obtain ⟨v, st₀, t, T', Lc, h0, X', hL, e1, e2, ⟨⟨v', M', hv, hK, hR⟩, hz, hk⟩, st⟩ := hr T hT X
  cases hv
  rw [h0] at hz hk
  obtain ⟨t2, a1, b1⟩ := kk v' M' T'.heap (locs ++ Lc) hK (by rw [e1]; exact hR)
    ⟨Nat.le_trans hS.1 (by rw [e1]; exact hz), fun q h1 h2 => by rw [e1, hk q (Nat.lt_of_lt_of_le h1 hS.1) h2]; exact hS.2.1 q h1 h2, fun q hq => by
      rcases List.mem_append.mp hq with h | h
      · exact hS.2.2 q h
      · exact hL q h⟩ T' rfl X'
  exact ⟨t2, st t2 a1, b1⟩
end CALLS
theorem PM_blind (B : BT) (As : List Value) (M : MT) : FrameBlind (PM B As M) := by
  intro a U g mk h
  obtain ⟨h0, h1, h2, h3⟩ := h
  exact ⟨h0, h1, Ev.same rfl rfl h2, h3⟩
theorem PM_pre {B : BT} {As : List Value} {M : MT} {s : State} {H : Heap} {locs : List Loc} (h1 : RM B M H) (h2 : va_S (AA B) s.heap H locs) (hE : Ev B s) (hB : B.1 ≤ s.heap.size) : ∀ U : State, U.heap = H → s.WarmedH U.vm → PM B As M (As.map (cz B)).toArray U := by
  intro U hU hW
  refine ⟨rfl, by rw [hU]; exact h1, Ev.moved hW (fun q a b => by rw [hU]; exact h2.2.1 q a b) hE, ?_⟩
  rw [hU]
  exact Nat.le_trans hB h2.1
theorem gw_app {us ws : List Cond} (h1 : ∀ w ∈ us, w ∈ gw) (h2 : ∀ w ∈ ws, w ∈ gw) : GoodIn gw (us ++ ws) := fun w h => gw_good w (by
  rcases List.mem_append.mp h with h | h
  · exact h1 w h
  · exact h2 w h)
theorem gw_co {c : Cond} (h : c ∈ gw) : ∀ w ∈ c :: gw, w ∈ gw := fun w hw => by
  rcases List.mem_cons.mp hw with rfl | hw
  · exact h
  · exact hw
theorem FL_ok' {oi ix a b : Nat} (h : b < 32 ∧ (ix, 32 * a + b) ∈ FL oi) : FG (ownS oi) ix a b := by
  have h1 := FL_ok oi _ h.2
  dsimp only at h1
  rwa [show (32 * a + b) / 32 = a by omega, show (32 * a + b) % 32 = b by omega] at h1
theorem PL_ok' {oi ix a b : Nat} (h : b < 32 ∧ (ix, 32 * a + b) ∈ PL oi) : FG (ownS oi) ix a b ∧ FI a b := by
  have h1 := PL_ok oi _ h.2
  dsimp only at h1
  rwa [show (32 * a + b) / 32 = a by omega, show (32 * a + b) % 32 = b by omega] at h1
section SOUND
variable {Γ : GT} {cc : ByteArray} {own : String} {d : Nat} {a : Nat × Nat × Nat} {pc : Nat} {L : LT} {S : List Value} {M : MT}
theorem x_callV (G : GK Γ cc own (d + 1)) (ha : a.2.2 = 76) {ix m : Nat} {q : MM} (hq : nth mil m = some q) (hst : q.2.2.2.2.2.2 = false) (hl : Cond.methodLink own ix q.1 ∈ gw) {r : Nat} {As : List Value} {fs : List (Option Nat)} {K : KT} (hn : As.length = q.2.2.2.2.1) (hcls : shp r = some (.inr (.inr (q.2.2.2.2.2.1, fs)))) (h8 : cats S ≤ 8) (hC : CTm (gl Γ) (gB Γ) d m (.ref r :: As) M K) (hd : decode cc pc = .ok (.invokevirtual ix, 3)) (kk : ∀ v M', K v M' → XM Γ a (pc + 3) L (v.toList ++ S) M') : XM Γ a pc L (As.reverse ++ .ref r :: S) M := by
  obtain ⟨p, l, e, R, s, mi, args, below, meth, c, Z, B⟩ := Γ
  obtain ⟨hx, hb, ho, hts, hE, hB0, hd1, hd2⟩ := G
  obtain ⟨y, bytes, nL, ret, n, ci, st⟩ := q
  obtain ⟨mk, ⟨T, N, hcl⟩, hs⟩ := mil_ok _ (List.mem_of_getElem? (by rw [← nth_eq]; exact hq))
  dsimp only at hst hl hn hcls mk hcl hs
  subst hst
  rcases hs with ⟨hs, -⟩ | ⟨-, hs1, hs2⟩
  · cases hs
  unfold CTm at hC
  rw [hq] at hC
  dsimp only [gl, gB] at hC
  intro H locs ls h1 h2 h3 h4 h5
  rw [ha] at h1
  obtain ⟨hi, hc⟩ := h1.cell (wc_get (shp_lt hcls))
  simp only [cellM, hcls, cellS, cE] at hc
  obtain ⟨mi1, mi2, mi3, mi4, mi5⟩ := mk
  have hG : GoodIn gw (wsV own ix y.cls y (.code y bytes nL ret :: gw)) := gw_app (fun w h => by
    simp only [List.mem_cons, List.not_mem_nil, or_false] at h
    rcases h with rfl | rfl | rfl | rfl <;> assumption) (gw_co mi1)
  have hfr : 8 + (nL + 11) + 64 * d ≤ R.locals := by omega
  have run := va_runV (p := p) (l := l) (e := e) (R := R) (s := s) (m := mi) (args := args) (below := below) (meth := meth) (c := c) (H := H) (locs := locs) (cells := a.1) (slots := a.2.1) (C := y.cls) (b := B.1 + r) (As := As.map (cz B)) (rest := S.map (cz B)) (g := F0 mi pc ls ((As.reverse ++ .ref r :: S).map (cz B))) ⟨hx, hb, rfl, ho, hts⟩ hC (cwV n hts hG rfl rfl rfl ⟨rfl, mi4.1, mi4.2.1, mi4.2.2⟩ ⟨hd1, hfr⟩) ⟨PM_blind _ _ _, va_recv hE.1 h1.2.2 hcl hc, PM_pre (As := .ref r :: As) h1 h2 hE hB0⟩ rfl (by rw [List.length_map]; exact hn) h3.1 (by simp [F0, cz]) (lv_room (by rw [cz_sum, cats_eq]; exact h8)) hd ⟨h4, h5⟩
  refine va_callK run h2 (fun v M' H1 locs1 hK hR hS => ?_)
  have := kk v M' hK H1 locs1 ls (by rw [ha]; exact hR) hS h3 h4 h5
  rw [List.map_append] at this
  cases v <;> exact this
theorem x_callS (G : GK Γ cc own (d + 1)) (ha : a.2.2 = 76) {ix m : Nat} {q : MM} (hq : nth mil m = some q) (hst : q.2.2.2.2.2.2 = true) (hl : (q.1.cls = own ∧ Cond.methodLink own ix q.1 ∈ gw) ∨ (own, ix, q.1, RX7) ∈ nestT) {As : List Value} {K : KT} (hn : As.length = q.2.2.2.2.1) (h8 : cats S ≤ 8) (hC : CTm (gl Γ) (gB Γ) d m As M K) (hd : decode cc pc = .ok (.invokestatic ix, 3)) (kk : ∀ v M', K v M' → XM Γ a (pc + 3) L (v.toList ++ S) M') : XM Γ a pc L (As.reverse ++ S) M := by
  obtain ⟨p, l, e, R, s, mi, args, below, meth, c, Z, B⟩ := Γ
  obtain ⟨hx, hb, ho, hts, hE, hB0, hd1, hd2⟩ := G
  obtain ⟨y, bytes, nL, ret, n, ci, st⟩ := q
  obtain ⟨mk, -, hs⟩ := mil_ok _ (List.mem_of_getElem? (by rw [← nth_eq]; exact hq))
  dsimp only at hst hl hn mk hs
  subst hst
  rcases hs with ⟨-, hs1⟩ | ⟨hs, -⟩
  rotate_left
  · cases hs
  unfold CTm at hC
  rw [hq] at hC
  dsimp only [gl, gB] at hC
  intro H locs ls h1 h2 h3 h4 h5
  rw [ha] at h1
  obtain ⟨mi1, mi2, mi3, mi4, mi5⟩ := mk
  have hfr : 8 + (nL + 11) + 64 * d ≤ R.locals := by omega
  have run : va_Run p l e R s mi args below meth c H locs a.1 a.2.1 0 0 (F0 mi pc ls ((As.reverse ++ S).map (cz B))) (S.map (cz B)) (QM B K (As.map (cz B)).toArray) (AA B) := by
    rcases hl with ⟨ho2, hl⟩ | hl
    · have hG : GoodIn gw (wsS own ix y (.code y bytes nL ret :: gw)) := gw_app (fun w h => by
        simp only [List.mem_cons, List.not_mem_nil, or_false] at h
        subst ho2
        rcases h with rfl | rfl | rfl <;> assumption) (gw_co mi1)
      exact va_runS (As := As.map (cz B)) (rest := S.map (cz B)) ⟨hx, hb, rfl, ho, hts⟩ hC (cwS n hts hG rfl rfl rfl ⟨ho2, mi4.1, mi4.2.1, mi4.2.2⟩ ⟨hd1, hfr⟩) ⟨PM_blind _ _ _, PM_pre h1 h2 hE hB0⟩ rfl (by rw [List.length_map]; exact hn) h3.1 (by simp [F0]) (lv_room (by rw [cz_sum, cats_eq]; exact h8)) hd ⟨h4, h5⟩
    · exact va_runSN (As := As.map (cz B)) (rest := S.map (cz B)) ⟨hx, hb, rfl, ho, hts⟩ hC ⟨va_cnB n hts (fun w h => gw_good w (gw_co mi1 w h)) rfl rfl rfl (hE.2.1 _ hl) (hts _ mi2) ⟨mi4.1, mi4.2.1, mi4.2.2⟩ ⟨hd1, hfr⟩, hts _ hs1, trivial⟩ ⟨PM_blind _ _ _, PM_pre h1 h2 hE hB0⟩ rfl (by rw [List.length_map]; exact hn) h3.1 (by simp [F0]) (lv_room (by rw [cz_sum, cats_eq]; exact h8)) hd ⟨h4, h5⟩
  refine va_callK run h2 (fun v M' H1 locs1 hK hR hS => ?_)
  have := kk v M' hK H1 locs1 ls (by rw [ha]; exact hR) hS h3 h4 h5
  rw [List.map_append] at this
  cases v <;> exact this
/-! ends -/
theorem m_iret (G : GK Γ cc own d) {v : Int32} {K : KT} (T : RTm Γ (some .int) a K) (hd : decode cc pc = .ok (.ireturn, 1)) (hv : K (some (.int v)) M) : XM Γ a pc L [.int v] M := by
  obtain ⟨p, l, e, R, s, m, args, below, meth, c, Z, B⟩ := Γ
  obtain ⟨hx, hb, ho, hts, hE, hB0, hd1, hd2⟩ := G
  intro H locs ls h1 h2 h3 h4 h5
  obtain ⟨t1, t2, t3, t4⟩ := T
  subst t3
  rw [t4] at h1
  exact W.iret hx hb t1 (fun t ht hW => ⟨⟨some (.int v), M, rfl, hv, by rw [ht]; exact h1⟩, h2.F ht⟩) h2.2.2 hd t2
theorem m_zret (G : GK Γ cc own d) {v : Int32} {K : KT} (T : RTm Γ (some .boolean) a K) (hd : decode cc pc = .ok (.ireturn, 1)) (hb01 : v = 0 ∨ v = 1) (hv : K (some (.int v)) M) : XM Γ a pc L [.int v] M := by
  obtain ⟨p, l, e, R, s, m, args, below, meth, c, Z, B⟩ := Γ
  obtain ⟨hx, hb, ho, hts, hE, hB0, hd1, hd2⟩ := G
  intro H locs ls h1 h2 h3 h4 h5
  obtain ⟨t1, t2, t3, t4⟩ := T
  subst t3
  rw [t4] at h1
  exact W.zret hx hb t1 (by rcases hb01 with rfl | rfl <;> rfl) (fun t ht hW => ⟨⟨some (.int v), M, rfl, hv, by rw [ht]; exact h1⟩, h2.F ht⟩) h2.2.2 hd t2
theorem m_vret (G : GK Γ cc own d) {K : KT} (T : RTm Γ none a K) (hd : decode cc pc = .ok (.return_, 1)) (hv : K none M) : XM Γ a pc L [] M := by
  obtain ⟨p, l, e, R, s, m, args, below, meth, c, Z, B⟩ := Γ
  obtain ⟨hx, hb, ho, hts, hE, hB0, hd1, hd2⟩ := G
  intro H locs ls h1 h2 h3 h4 h5
  obtain ⟨t1, t2, t3, t4⟩ := T
  subst t3
  rw [t4] at h1
  exact W.vret hx hb t1 (fun t ht hW => ⟨⟨none, M, rfl, hv, by rw [ht]; exact h1⟩, h2.F ht⟩) h2.2.2 hd t2
theorem m_aret (G : GK Γ cc own d) {i : Nat} {C : String} {K : KT} (T : RTm Γ (some (.object C)) a K) (hd : decode cc pc = .ok (.areturn, 1)) (hv : K (some (.ref i)) M) : XM Γ a pc L [.ref i] M := by
  obtain ⟨p, l, e, R, s, m, args, below, meth, c, Z, B⟩ := Γ
  obtain ⟨hx, hb, ho, hts, hE, hB0, hd1, hd2⟩ := G
  intro H locs ls h1 h2 h3 h4 h5
  obtain ⟨t1, t2, t3, t4⟩ := T
  subst t3
  rw [t4] at h1
  exact W.aret hx hb t1 (Or.inl ⟨_, rfl⟩) (Or.inr ⟨_, rfl⟩) (fun t ht hW => ⟨⟨some (.ref i), M, rfl, hv, by rw [ht]; exact h1⟩, h2.F ht⟩) h2.2.2 hd t2
theorem m_sld (G : GK Γ cc own d) {n : Nat} {g : Nat → Int32} (hsc : ScOK Γ (some (n, g))) {x : Int32} (j : Nat) (hd : decode cc pc = .ok (.iaload, 1)) (hj : x = nI j) (hlt : j < n) (hn : n < 2147483648) (kk : XM Γ a (pc + 1) L (.int (g j) :: S) M) : XM Γ a pc L (.int x :: .float 0 :: S) M := by
  obtain ⟨p, l, e, R, s, m, args, below, meth, c, Z, B⟩ := Γ
  obtain ⟨hx, hb, ho, hts, hE, hB0, hd1, hd2⟩ := G
  intro H locs ls h1 h2 h3 h4 h5
  obtain ⟨v1, v2⟩ := inN hj hlt hn
  obtain ⟨s1, s2, s3⟩ := hsc
  refine va_sld hx hb s1 s2 s3 h2 v1 hd ?_
  rw [v2]
  exact kk H locs ls h1 h2 h3 h4 h5
theorem m_slen (G : GK Γ cc own d) {n : Nat} {g : Nat → Int32} (hsc : ScOK Γ (some (n, g))) (hd : decode cc pc = .ok (.arraylength, 1)) (kk : XM Γ a (pc + 1) L (.int (nI n) :: S) M) : XM Γ a pc L (.float 0 :: S) M := by
  obtain ⟨p, l, e, R, s, m, args, below, meth, c, Z, B⟩ := Γ
  obtain ⟨hx, hb, ho, hts, hE, hB0, hd1, hd2⟩ := G
  intro H locs ls h1 h2 h3 h4 h5
  obtain ⟨s1, s2, s3⟩ := hsc
  exact va_slen hx hb s1 s2 s3 h2 hd (kk H locs ls h1 h2 h3 h4 h5)
end SOUND

set_option maxHeartbeats 4000000 in
theorem stp_ok {Γ : GT} {cc : ByteArray} {oi d : Nat} {a : Nat × Nat × Nat} (G : GK Γ cc (ownS oi) d) (ha : a.2.2 = 76) {ret : Option FieldType} {K : KT} (T : RTm Γ ret a K) {sc : ST} (hsc : ScOK Γ sc) (hsn : ∀ n g, sc = some (n, g) → n < 2147483648) {X : XT} (hX : ∀ pc L S M, X pc L S M → XM Γ a pc L S M) {pc : Nat} {e : ET} {L : LT} {S : List Value} {M : MT} {k : LT → List Value → MT → Prop} (hd : decode cc pc = .ok (e.1, e.2.1)) (hx : AUX oi ret pc e) (h : stp sc (CTm (gl Γ) (gB Γ)) X K d e L S M k) (hk : ∀ L S M, k L S M → XM Γ a (nxt pc e) L S M) : XM Γ a pc L S M := by
  obtain ⟨ins, len, av, bv, v⟩ := e
  dsimp only at hd
  cases ins with
  | aload_n n =>
    have hl : len = 1 := hx
    subst hl
    have h : ldA L n.val (fun u => k L (u :: S) M) := h
    rcases ldA_inv h with ⟨x, h1, h⟩ | ⟨x, h1, h⟩
    · exact x_aload_n G hd rfl h1 (hk _ _ _ h)
    · exact x_aload_nE G hd rfl h1 (hk _ _ _ h)
  | aload i =>
    have hl : len = 2 := hx
    subst hl
    have h : ldA L i (fun u => k L (u :: S) M) := h
    rcases ldA_inv h with ⟨x, h1, h⟩ | ⟨x, h1, h⟩
    · exact x_aload G hd h1 (hk _ _ _ h)
    · exact x_aloadE G hd h1 (hk _ _ _ h)
  | iload_n n =>
    have hl : len = 1 := hx
    subst hl
    obtain ⟨x, h1, h⟩ := ldI_inv h
    exact x_iload_n G hd rfl h1 (hk _ _ _ h)
  | iload i =>
    have hl : len = 2 := hx
    subst hl
    obtain ⟨x, h1, h⟩ := ldI_inv h
    exact x_iload G hd h1 (hk _ _ _ h)
  | lload_n n =>
    have hl : len = 1 := hx
    subst hl
    obtain ⟨x, h1, h⟩ := ldJ_inv h
    exact x_lload_n G hd rfl h1 (hk _ _ _ h)
  | lload i =>
    have hl : len = 2 := hx
    subst hl
    obtain ⟨x, h1, h⟩ := ldJ_inv h
    exact x_lload G hd h1 (hk _ _ _ h)
  | istore_n n =>
    have hl : len = 1 := hx
    subst hl
    obtain ⟨x, S, rfl, h⟩ := pI_inv h
    obtain ⟨h1, h2, h⟩ := stL_inv h
    exact x_istore_n G hd rfl h2 h1 (hk _ _ _ h)
  | istore i =>
    have hl : len = 2 := hx
    subst hl
    obtain ⟨x, S, rfl, h⟩ := pI_inv h
    obtain ⟨h1, h2, h⟩ := stL_inv h
    exact x_istore G hd h2 h1 (hk _ _ _ h)
  | astore_n n =>
    have hl : len = 1 := hx
    subst hl
    obtain ⟨x, S, rfl, h⟩ := pA_inv h
    obtain ⟨h1, h2, h⟩ := stL_inv h
    exact x_astore_n G hd rfl h2 h1 (hk _ _ _ h)
  | lstore i =>
    have hl : len = 2 := hx
    subst hl
    obtain ⟨x, S, rfl, h⟩ := pJ_inv h
    obtain ⟨h1, h2, h⟩ := stJ_inv h
    exact x_lstore G hd h2 h1 (hk _ _ _ h)
  | iinc i n =>
    obtain ⟨hl, hx⟩ : len = 3 ∧ _ := hx
    try dsimp only at hl hx
    subst hl
    obtain ⟨x, h1, h⟩ := ldI_inv h
    obtain ⟨h2, h3, h⟩ := stL_inv h
    exact x_iinc G hd h1 (by rw [hx]) h2 (hk _ _ _ h)
  | iconst n =>
    obtain ⟨hl, hx⟩ : len = 1 ∧ _ := hx
    try dsimp only at hl hx
    subst hl
    exact x_iconst G hd hx (hk _ _ _ h)
  | bipush n =>
    obtain ⟨hl, hx⟩ : len = 2 ∧ _ := hx
    try dsimp only at hl hx
    subst hl
    exact x_bipush G hd hx (hk _ _ _ h)
  | sipush n =>
    obtain ⟨hl, hx⟩ : len = 3 ∧ _ := hx
    try dsimp only at hl hx
    subst hl
    exact x_sipush G hd hx (hk _ _ _ h)
  | ldc ix =>
    obtain ⟨hl, hx⟩ : len = 2 ∧ _ := hx
    try dsimp only at hl hx
    subst hl
    exact x_ldc G hd (CL_ok oi _ hx) (hk _ _ _ h)
  | ldc_w ix =>
    obtain ⟨hl, hx⟩ : len = 3 ∧ _ := hx
    try dsimp only at hl hx
    subst hl
    exact x_ldcw G hd (CL_ok oi _ hx) (hk _ _ _ h)
  | lconst n =>
    obtain ⟨hl, hx⟩ : len = 1 ∧ _ := hx
    try dsimp only at hl hx
    subst hl
    exact x_lconst G hd hx (hk _ _ _ h)
  | ldc2_w ix =>
    obtain ⟨hl, hx⟩ : len = 3 ∧ _ := hx
    try dsimp only at hl hx
    subst hl
    exact x_ldc2 G hd (JL_ok oi _ hx) (hk _ _ _ h)
  | iadd =>
    have hl : len = 1 := hx
    subst hl
    obtain ⟨y, x, S, rfl, h⟩ := pII_inv h
    exact x_iadd G hd (hk _ _ _ h)
  | isub =>
    have hl : len = 1 := hx
    subst hl
    obtain ⟨y, x, S, rfl, h⟩ := pII_inv h
    exact x_isub G hd (hk _ _ _ h)
  | imul =>
    have hl : len = 1 := hx
    subst hl
    obtain ⟨y, x, S, rfl, h⟩ := pII_inv h
    exact x_imul G hd (hk _ _ _ h)
  | iand =>
    have hl : len = 1 := hx
    subst hl
    obtain ⟨y, x, S, rfl, h⟩ := pII_inv h
    exact x_iand G hd (hk _ _ _ h)
  | ior =>
    have hl : len = 1 := hx
    subst hl
    obtain ⟨y, x, S, rfl, h⟩ := pII_inv h
    exact x_ior G hd (hk _ _ _ h)
  | ixor =>
    have hl : len = 1 := hx
    subst hl
    obtain ⟨y, x, S, rfl, h⟩ := pII_inv h
    exact x_ixor G hd (hk _ _ _ h)
  | ishl =>
    have hl : len = 1 := hx
    subst hl
    obtain ⟨y, x, S, rfl, h⟩ := pII_inv h
    exact x_ishl G hd (hk _ _ _ h)
  | ishr =>
    have hl : len = 1 := hx
    subst hl
    obtain ⟨y, x, S, rfl, h⟩ := pII_inv h
    exact x_ishr G hd (hk _ _ _ h)
  | idiv =>
    have hl : len = 1 := hx
    subst hl
    obtain ⟨y, x, S, rfl, h0, h⟩ := pII_inv h
    exact x_idiv G hd h0 (hk _ _ _ h)
  | irem =>
    have hl : len = 1 := hx
    subst hl
    obtain ⟨y, x, S, rfl, h0, h⟩ := pII_inv h
    exact x_irem G hd h0 (hk _ _ _ h)
  | ineg =>
    have hl : len = 1 := hx
    subst hl
    obtain ⟨x, S, rfl, h⟩ := pI_inv h
    exact x_ineg G hd (hk _ _ _ h)
  | ladd =>
    have hl : len = 1 := hx
    subst hl
    obtain ⟨y, x, S, rfl, h⟩ := pJJ_inv h
    exact x_ladd G hd (hk _ _ _ h)
  | lmul =>
    have hl : len = 1 := hx
    subst hl
    obtain ⟨y, x, S, rfl, h⟩ := pJJ_inv h
    exact x_lmul G hd (hk _ _ _ h)
  | lcmp =>
    have hl : len = 1 := hx
    subst hl
    obtain ⟨y, x, S, rfl, h⟩ := pJJ_inv h
    exact x_lcmp G hd (hk _ _ _ h)
  | lrem =>
    have hl : len = 1 := hx
    subst hl
    obtain ⟨y, x, S, rfl, h0, h⟩ := pJJ_inv h
    exact x_lrem G hd h0 (hk _ _ _ h)
  | l2i =>
    have hl : len = 1 := hx
    subst hl
    obtain ⟨x, S, rfl, h⟩ := pJ_inv h
    exact x_l2i G hd (hk _ _ _ h)
  | i2l =>
    have hl : len = 1 := hx
    subst hl
    obtain ⟨x, S, rfl, h⟩ := pI_inv h
    exact x_i2l G hd (hk _ _ _ h)
  | i2b =>
    have hl : len = 1 := hx
    subst hl
    obtain ⟨x, S, rfl, h⟩ := pI_inv h
    exact x_i2b G hd (hk _ _ _ h)
  | i2s =>
    have hl : len = 1 := hx
    subst hl
    obtain ⟨x, S, rfl, h⟩ := pI_inv h
    exact x_i2s G hd (hk _ _ _ h)
  | dup =>
    have hl : len = 1 := hx
    subst hl
    have h : dupK S (fun S => k L S M) := h
    unfold dupK at h
    split at h
    · exact x_dup G hd rfl (hk _ _ _ h)
    · exact x_dup G hd rfl (hk _ _ _ h)
    · exact h.elim
  | dup2 =>
    have hl : len = 1 := hx
    subst hl
    have h : dup2K S (fun S => k L S M) := h
    unfold dup2K at h
    split at h
    · exact x_dup2 G hd rfl rfl (hk _ _ _ h)
    · exact h.elim
  | getfield ix =>
    obtain ⟨hl, hx⟩ : len = 3 ∧ _ := hx
    try dsimp only at hl hx
    subst hl
    obtain ⟨r, S, fs, rfl, hs, h⟩ := getK_inv (show getK av bv S M (fun S => k L S M) from h)
    have hw : (wc M)[r]? = some (r, ob av (flds (M r) 0 fs)) := by rw [wc_get (shp_lt hs)]; simp only [cellM, hs, cellS]
    rcases h with ⟨hf, h⟩ | ⟨c, hf, h⟩
    · exact x_getf G r hd (FL_ok' hx) hw (by rw [flds_get, hf]; simp) (hk _ _ _ h)
    · exact x_getf G r hd (FL_ok' hx) hw (by rw [flds_get, hf]) (hk _ _ _ h)
  | putfield ix =>
    obtain ⟨hl, hx⟩ : len = 3 ∧ _ := hx
    try dsimp only at hl hx
    subst hl
    obtain ⟨x, r, S, fs, rfl, hs, hf, h⟩ := putK_inv (show putK av bv S M (fun S M => k L S M) from h)
    have hw : (wc M)[r]? = some (r, ob av (flds (M r) 0 fs)) := by rw [wc_get (shp_lt hs)]; simp only [cellM, hs, cellS]
    refine x_puti G r hd (PL_ok' hx).1 (PL_ok' hx).2 hw (by rw [flds_get, hf]; rfl) ?_
    rw [wc_set (M' := wr M r bv x) (shp_lt hs) (by simp only [cellM, hs, cellS, wr_self]; rw [flds_set _ _ _ _ _ hf, Nat.zero_add]) (fun q hq => wr_off hq)]
    exact hk _ _ _ h
  | iaload =>
    have hl : len = 1 := hx
    subst hl
    rcases aldK_inv (show aldK sc S M (fun S => k L S M) from h) with ⟨x, r, S, n, rfl, hs, j, h1, h2, h⟩ | ⟨x, S, n, g, rfl, rfl, j, h1, h2, h⟩ | ⟨x, S, rfl, j, h1, h2, h⟩ | ⟨x, S, rfl, j, h1, h2, h⟩
    · have hw : (wc M)[r]? = some (r, ai n (M r)) := by rw [wc_get (shp_lt hs)]; simp only [cellM, hs, cellS]
      exact x_iald G r j hd hw h1 h2 (shp_small hs) (hk _ _ _ h)
    · exact m_sld G hsc j hd h1 h2 (hsn _ _ rfl) (hk _ _ _ h)
    · exact x_eald1 G j hd h1 h2 (hk _ _ _ h)
    · exact x_eald2 G j hd h1 h2 (hk _ _ _ h)
  | arraylength =>
    have hl : len = 1 := hx
    subst hl
    obtain ⟨S, n, g, rfl, rfl, h⟩ := alenK_inv (show alenK sc S (fun S => k L S M) from h)
    exact m_slen G hsc hd (hk _ _ _ h)
  | iastore =>
    have hl : len = 1 := hx
    subst hl
    obtain ⟨v, x, r, S, n, rfl, hs, j, h1, h2, h⟩ := astK_inv (show astK S M (fun S M => k L S M) from h)
    have hw : (wc M)[r]? = some (r, ai n (M r)) := by rw [wc_get (shp_lt hs)]; simp only [cellM, hs, cellS]
    refine x_iast G r j hd hw h1 h2 (shp_small hs) ?_
    rw [wc_set (M' := wr M r j v) (shp_lt hs) (by simp only [cellM, hs, cellS, wr_self]) (fun q hq => wr_off hq)]
    exact hk _ _ _ h
  | baload =>
    have hl : len = 1 := hx
    subst hl
    obtain ⟨x, r, S, n, rfl, hs, j, h1, h2, h⟩ := zldK_inv (show zldK S M (fun S => k L S M) from h)
    have hw : (wc M)[r]? = some (r, ab n (M r)) := by rw [wc_get (shp_lt hs)]; simp only [cellM, hs, cellS]
    exact x_zald G r j hd hw h1 h2 (shp_small hs) (hk _ _ _ h)
  | bastore =>
    have hl : len = 1 := hx
    subst hl
    obtain ⟨v, x, r, S, n, rfl, hs, j, h1, h2, h⟩ := zstK_inv (show zstK S M (fun S M => k L S M) from h)
    have hw : (wc M)[r]? = some (r, ab n (M r)) := by rw [wc_get (shp_lt hs)]; simp only [cellM, hs, cellS]
    refine x_zast G r j hd hw h1 h2 (shp_small hs) ?_
    rw [wc_set (M' := wr M r j (vp_nar .boolean v)) (shp_lt hs) (by simp only [cellM, hs, cellS, wr_self]) (fun q hq => wr_off hq)]
    exact hk _ _ _ h
  | aaload =>
    have hl : len = 1 := hx
    subst hl
    obtain ⟨x, r, S, l, rfl, hs, j, c, h1, h2, h⟩ := qldK_inv (show qldK S (fun S => k L S M) from h)
    have hw : (wc M)[r]? = some (r, aq l.length (nth l)) := by rw [wc_get (shp_lt hs)]; simp only [cellM, hs, cellS]
    exact x_aald G r j hd hw h1 (by rw [nth_eq] at h2; exact (List.getElem?_eq_some_iff.mp h2).1) (shp_smallq hs) h2 (hk _ _ _ h)
  | getstatic ix =>
    obtain ⟨hl, ho, hx⟩ : len = 3 ∧ oi = 1 ∧ _ := hx
    try dsimp only at hl hx
    subst hl; subst ho
    rcases hx with ⟨rfl, rfl⟩ | ⟨rfl, rfl⟩
    · exact x_gets1 G hd (gw_at 834 (by decide +kernel) rfl) (hk _ _ _ h)
    · exact x_gets2 G hd (gw_at 840 (by decide +kernel) rfl) (hk _ _ _ h)
  | ifCond c off =>
    obtain ⟨hl, hx⟩ : len = 3 ∧ _ := hx
    try dsimp only at hl hx
    subst hl
    obtain ⟨x, S, rfl, h⟩ := pI_inv h
    cases c with
    | eq => exact x_if_eq G av hd hx (fun q => hX _ _ _ _ (h.1 q)) (fun q => hk _ _ _ (h.2 q))
    | ne => exact x_if_ne G av hd hx (fun q => hX _ _ _ _ (h.1 q)) (fun q => hk _ _ _ (h.2 q))
    | lt => exact x_if_lt G av hd hx (fun q => hX _ _ _ _ (h.1 q)) (fun q => hk _ _ _ (h.2 q))
    | ge => exact x_if_ge G av hd hx (fun q => hX _ _ _ _ (h.1 q)) (fun q => hk _ _ _ (h.2 q))
    | gt => exact x_if_gt G av hd hx (fun q => hX _ _ _ _ (h.1 q)) (fun q => hk _ _ _ (h.2 q))
    | le => exact x_if_le G av hd hx (fun q => hX _ _ _ _ (h.1 q)) (fun q => hk _ _ _ (h.2 q))
  | if_icmp c off =>
    obtain ⟨hl, hx⟩ : len = 3 ∧ _ := hx
    try dsimp only at hl hx
    subst hl
    obtain ⟨y, x, S, rfl, h⟩ := pII_inv h
    cases c with
    | eq => exact x_icmp_eq G av hd hx (fun q => hX _ _ _ _ (h.1 q)) (fun q => hk _ _ _ (h.2 q))
    | ne => exact x_icmp_ne G av hd hx (fun q => hX _ _ _ _ (h.1 q)) (fun q => hk _ _ _ (h.2 q))
    | lt => exact x_icmp_lt G av hd hx (fun q => hX _ _ _ _ (h.1 q)) (fun q => hk _ _ _ (h.2 q))
    | ge => exact x_icmp_ge G av hd hx (fun q => hX _ _ _ _ (h.1 q)) (fun q => hk _ _ _ (h.2 q))
    | gt => exact x_icmp_gt G av hd hx (fun q => hX _ _ _ _ (h.1 q)) (fun q => hk _ _ _ (h.2 q))
    | le => exact x_icmp_le G av hd hx (fun q => hX _ _ _ _ (h.1 q)) (fun q => hk _ _ _ (h.2 q))
  | goto off =>
    obtain ⟨hl, hx⟩ : len = 3 ∧ _ := hx
    try dsimp only at hl hx
    subst hl
    exact x_goto G av hd hx (hk _ _ _ h)
  | tableswitch dflt lo hi offs =>
    obtain ⟨rfl, h0, h1, h2, h3⟩ : av = pc ∧ (∀ o ∈ dflt :: offs.toList, 0 ≤ (pc : Int) + o) ∧ lo + offs.toList.length = hi + 1 ∧ -2147483648 ≤ lo ∧ hi < 2147483648 := hx
    obtain ⟨x, S, rfl, h4, h5⟩ := pI_inv h
    by_cases ho : x.toInt < lo ∨ hi < x.toInt
    · exact x_tabOut G _ hd ho (Int.toNat_of_nonneg (h0 _ List.mem_cons_self)).symm (hX _ _ _ _ (h4 ho))
    · have g1 : ¬ x.toInt < lo := fun q => ho (Or.inl q)
      have g2 : ¬ hi < x.toInt := fun q => ho (Or.inr q)
      have g3 : (x.toInt - lo).toNat < offs.toList.length := by omega
      have g4 : offs.toList[(x.toInt - lo).toNat]? = some (offs.toList[(x.toInt - lo).toNat]) := List.getElem?_eq_getElem g3
      have g5 := swK_at h5 _ _ g4 (by omega)
      exact x_tabIn G _ hd g1 g2 (by rw [← g4]; simp) (Int.toNat_of_nonneg (h0 _ (List.mem_cons_of_mem _ (List.getElem_mem g3)))).symm (hX _ _ _ _ g5)
  | lookupswitch dflt ps =>
    obtain ⟨rfl, h0, h1⟩ : av = pc ∧ (∀ o ∈ dflt :: ps.toList.map (fun q : Int × Int => q.2), 0 ≤ (pc : Int) + o) ∧ (ps.toList.zip (ps.toList.drop 1)).all (fun (a, next) => a.1 < next.1) = true := hx
    obtain ⟨x, S, rfl, h4, h5⟩ := pI_inv h
    obtain ⟨g1, g2⟩ := lkK_off h5 h4
    have g3 : Op.lookupswitch.offset ps.toList dflt x.toInt ∈ dflt :: ps.toList.map (fun q : Int × Int => q.2) := by
      rcases g2 with g2 | g2
      · rw [g2]; exact List.mem_cons_self
      · exact List.mem_cons_of_mem _ g2
    exact x_look G _ hd h1 rfl (Int.toNat_of_nonneg (h0 _ g3)).symm (hX _ _ _ _ g1)
  | invokevirtual ix =>
    obtain ⟨hl, hx⟩ : len = 3 ∧ _ := hx
    try dsimp only at hl hx
    subst hl
    obtain ⟨q, hq, hlk⟩ := VL_ok oi _ hx
    have h : callK (CTm (gl Γ) (gB Γ)) d av true S M (fun S M => k L S M) := h
    unfold callK at h
    rw [show nth mil av = some q from hq] at h
    obtain ⟨y, bytes, nL, rt, n, ci, st⟩ := q
    dsimp only at h
    cases st with
    | true => exact h.elim
    | false =>
      obtain ⟨P, S, rfl, hP, h⟩ := popN_inv (show popN (n + 1) S [] _ from h)
      rw [List.append_nil] at h
      generalize hA : P.reverse = As at h
      cases As with
      | nil => exact h.elim
      | cons a0 As =>
        dsimp only at h
        split at h
        · rename_i hb
          obtain ⟨hb1, hb2⟩ := Bool.and_eq_true_iff.mp hb
          obtain ⟨r, fs, rfl, hs⟩ := isO_inv hb1
          obtain ⟨hpos, hC⟩ := h
          obtain ⟨d, rfl⟩ : ∃ z, d = z + 1 := ⟨d - 1, by omega⟩
          have hPe : P = As.reverse ++ [.ref r] := by
            have := congrArg List.reverse hA
            rwa [List.reverse_reverse, List.reverse_cons] at this
          have hlen : As.length = n := by
            have := congrArg List.length hA
            simp only [List.length_reverse, List.length_cons] at this
            omega
          rw [hPe, List.append_assoc]
          exact x_callV G ha hq rfl hlk hlen hs (Nat.le_of_ble_eq_true hb2) hC hd (fun v M' hv => hk _ _ _ (retK_eq hv))
        · exact h.elim
  | invokestatic ix =>
    obtain ⟨hl, hx⟩ : len = 3 ∧ _ := hx
    try dsimp only at hl hx
    subst hl
    rcases hx with ⟨hlt, hx⟩ | ⟨rfl, hx⟩ | ⟨rfl, hx⟩
    · obtain ⟨q, hq, hlk⟩ := SL_ok oi _ hx
      have h : callK (CTm (gl Γ) (gB Γ)) d av false S M (fun S M => k L S M) := by
        unfold stp at h
        dsimp only at h
        have : Nat.ble 1000 av = false := by
          cases hb : Nat.ble 1000 av with
          | false => rfl
          | true => have := Nat.le_of_ble_eq_true hb; omega
        rw [this] at h
        exact h
      unfold callK at h
      rw [show nth mil av = some q from hq] at h
      obtain ⟨y, bytes, nL, rt, n, ci, st⟩ := q
      dsimp only at h
      cases st with
      | false => exact h.elim
      | true =>
        obtain ⟨P, S, rfl, hP, h⟩ := popN_inv (show popN n S [] _ from h)
        rw [List.append_nil] at h
        split at h
        · rename_i hb2
          obtain ⟨hpos, hC⟩ := h
          obtain ⟨d, rfl⟩ : ∃ z, d = z + 1 := ⟨d - 1, by omega⟩
          have key := x_callS (L := L) (a := a) (S := S) G ha hq rfl hlk (As := P.reverse) (by rw [List.length_reverse]; exact hP) (Nat.le_of_ble_eq_true hb2) hC hd (fun v M' hv => hk _ _ _ (retK_eq hv))
          rwa [List.reverse_reverse] at key
        · exact h.elim
    · obtain ⟨xn, xd, i1, xs, i0, S, n0, n1, rfl, hs0, hs1, hb, hpos, sp, dp, n, e1, e2, e3, b0, b1, h'⟩ := cpyK_inv (show cpyK d S M (fun S M => k L S M) from h)
      obtain ⟨d, rfl⟩ : ∃ z, d = z + 1 := ⟨d - 1, by omega⟩
      have hw0 : (wc M)[i0]? = some (i0, ai n0 (M i0)) := by rw [wc_get (shp_lt hs0)]; simp only [cellM, hs0, cellS]
      have hw1 : (wc M)[i1]? = some (i1, ai n1 (M i1)) := by rw [wc_get (shp_lt hs1)]; simp only [cellM, hs1, cellS]
      refine x_copy G i0 i1 sp dp n hd (YL_ok oi _ hx) ac_nat ac_stat ac_ini hw0 hw1 e1 e2 e3 b0 b1 (shp_small hs0) (shp_small hs1) (by rw [cats_eq]; exact Nat.le_of_ble_eq_true hb) ?_
      rw [wc_set (M' := cp M i0 i1 sp dp n) (shp_lt hs1) (by simp only [cellM, hs1, cellS, cp_self]) (fun q hq => cp_off hq)]
      exact hk _ _ _ h'
    · obtain ⟨x, S, rfl, hb, hpos, h'⟩ := absK_inv (show absK d S (fun S => k L S M) from h)
      obtain ⟨d, rfl⟩ : ∃ z, d = z + 1 := ⟨d - 1, by omega⟩
      exact x_abs G hd (AL_ok oi _ hx) ma_stat ma_ini ma_code (by rw [cats_eq]; exact Nat.le_of_ble_eq_true hb) (hk _ _ _ h')
  | ireturn =>
    obtain ⟨hl, hx⟩ : len = 1 ∧ _ := hx
    try dsimp only at hl hx
    subst hl
    have h : retI av K S M := h
    unfold retI at h
    split at h
    · rcases hx with ⟨rfl, rfl⟩ | ⟨rfl, rfl⟩
      · exact m_iret G T hd h
      · exact m_zret G T hd h.1 h.2
    · exact h.elim
  | areturn =>
    obtain ⟨hl, hx⟩ : len = 1 ∧ _ := hx
    try dsimp only at hl hx
    subst hl
    have h : retA K S M := h
    unfold retA at h
    split at h
    · subst hx
      exact m_aret G T hd h
    · exact h.elim
  | return_ =>
    obtain ⟨hl, hx⟩ : len = 1 ∧ _ := hx
    try dsimp only at hl hx
    subst hl
    have h : retV K S M := h
    unfold retV at h
    split at h
    · subst hx
      exact m_vret G T hd h
    · exact h.elim
  | _ => exact False.elim h
theorem WPB_ok {Γ : GT} {cc : ByteArray} {oi d : Nat} {a : Nat × Nat × Nat} (G : GK Γ cc (ownS oi) d) (ha : a.2.2 = 76) {ret : Option FieldType} {K : KT} (T : RTm Γ ret a K) {sc : ST} (hsc : ScOK Γ sc) (hsn : ∀ n g, sc = some (n, g) → n < 2147483648) {X : XT} (hX : ∀ pc L S M, X pc L S M → XM Γ a pc L S M) : ∀ {z : Nat} {b : List ET} {pc : Nat} {L : LT} {S : List Value} {M : MT}, chkB oi cc ret z pc b → WPB sc (CTm (gl Γ) (gB Γ)) X K d z b L S M → XM Γ a pc L S M := by
  intro z b
  induction b with
  | nil => intro pc L S M hc h; have hc : pc = z := hc; subst hc; exact hX _ _ _ _ h
  | cons e r ih =>
    intro pc L S M hc h
    exact stp_ok G ha T hsc hsn hX hc.1 hc.2.1 h (fun L S M h => ih hc.2.2 h)
/-- a method out of its blocks -/
theorem CTm_of {l : Launch} {B : BT} {d m : Nat} {As : List Value} {M : MT} {K : KT} {y : MethodName} {cc : ByteArray} {nL : Nat} {ret : Option FieldType} {n ci oi : Nat} {st : Bool} (hm : nth mil m = some (y, cc, nL, ret, n, ci, st)) (hoi : y.cls = ownS oi) {bs : BL} (hb : ∀ b ∈ bs, chkB oi cc ret b.2.1 b.1 b.2.2) (hn : (aL As).length ≤ nL) (body : ∀ X : XT, CloX (CTm l B) K d bs X → X 0 (initL As nL) [] M) : CTm l B d m As M K := by
  obtain ⟨mk, -, -⟩ := mil_ok _ (List.mem_of_getElem? (by rw [← nth_eq]; exact hm))
  dsimp only at mk
  unfold CTm
  rw [hm]
  dsimp only
  refine Met.ofW (cc := cc) (maxL := nL) (ret := ret) mk.2.2.1 rfl ?_
  intro p e s m args below meth c s₁ B0 hml hv
  obtain ⟨rfl, h1, h2, h3⟩ := hv
  have hts := atoms_spec (ws := .code y cc nL ret :: gw) B0.pre
  have G : GK (p, l, e, rmD d 0 0, s, m, (As.map (cz B)).toArray, below, meth, c, MQ below (QM B K) (As.map (cz B)).toArray s 0 0 (AA B), B) cc (ownS oi) d := ⟨B0.exec, B0.bytes, by rw [← hoi]; exact findClass_of_methodNamed B0.named, fun w hw => hts w (List.mem_cons_of_mem _ hw), h2, h3, Nat.le_refl _, Nat.le_refl _⟩
  have key := body (XM (p, l, e, rmD d 0 0, s, m, (As.map (cz B)).toArray, below, meth, c, MQ below (QM B K) (As.map (cz B)).toArray s 0 0 (AA B), B) (0, 0, 76)) (fun b hb1 L S M h => WPB_ok (a := (0, 0, 76)) G rfl (ret := ret) ⟨B0.returns, B0.notSynchronized, rfl, rfl⟩ (sc := none) trivial (fun _ _ q => by cases q) (fun _ _ _ _ q => q) (hb b hb1) h)
  rw [lg_entry_eq]
  exact key s.heap [] _ h1 va_S.rf (by rw [hml]; exact lL.entry rfl hn) (Nat.zero_le _) (Nat.zero_le _)

