/-! A PURE PICTURE OF THE WORLD. Cells stand at places 0, 1, 2 .. behind an address 'base'; a value .ref i is place i, .float k an outer array (the script, two static tables). -/
abbrev CA : Type := (FieldType × Nat × (Nat → Int32)) ⊕ (Nat × (Nat → Option Nat)) ⊕ (Nat × List Value)
abbrev WA : Type := List (Nat × CA)
abbrev BT : Type := Nat × va_G × (UInt32 → Nat) × (FieldType → ClassId)
abbrev ai (n : Nat) (g : Nat → Int32) : CA := .inl (.int, n, g)
abbrev ab (n : Nat) (g : Nat → Int32) : CA := .inl (.boolean, n, g)
abbrev aq (n : Nat) (g : Nat → Option Nat) : CA := .inr (.inl (n, g))
abbrev ob (ci : Nat) (fs : List Value) : CA := .inr (.inr (ci, fs))
def cz (B : BT) : Value → Value
  | .ref i => .ref (B.1 + i)
  | .float k => .ref (B.2.2.1 k)
  | .int x => .int x
  | .long x => .long x
  | .double x => .double x
  | .null => .null
  | .retAddr x => .retAddr x
def cE (B : BT) : CA → va_E
  | .inl (ty, n, g) => .inl (B.2.2.2 ty, n, .inl g)
  | .inr (.inl (n, g)) => .inl (B.2.2.2 (.object RX2), n, .inr (.inr (.inr (.inr (fun j => (g j).map (fun i => B.1 + i))))))
  | .inr (.inr (ci, fs)) => .inr (ci, fs.map (cz B))
def ov : WA → (Nat → CA) → Nat → CA
  | [], f, i => f i
  | q :: w, f, i => if i = q.1 then q.2 else ov w f i
def wl (B : BT) (g : Nat → CA) (z : Nat) : va_W := (List.range z).map (fun i => (B.1 + i, cE B (g i)))
abbrev AA (B : BT) : Nat → Prop := fun q => B.1 ≤ q
def Rp (B : BT) (w : WA) (f : Nat → CA) (z : Nat) (H : Heap) : Prop :=
  (w.map (·.1)).Nodup ∧ (∀ q ∈ w, q.1 < z) ∧ va_P B.2.1 vwCl (wl B (ov w f) z) H
def tyB (B : BT) : List (ClassId × FieldType) := [(B.2.2.2 .int, .int), (B.2.2.2 .boolean, .boolean), (B.2.2.2 (.object RX2), .object RX2)]
def nestT : List (String × Nat × MethodName × String) := [(RX6, 121, yX7_within, RX7), (RX2, 69, yX7_bounded, RX7), (RX5, 112, yX7_isOf, RX7), (RX5, 120, yX7_bounded, RX7), (RX1, 53, yX7_within, RX7)]
def sizeB (j : Nat) : Int32 := match j with | 0 => 10 | 1 => 11 | 2 => 12 | 3 => 11 | 4 => 13 | _ => 14
def markB (j : Nat) : Int32 := match j with | 0 => 20 | 1 => 21 | 2 => 24 | 3 => 22 | 4 => 23 | _ => 23
/-- what stays true of the tables and of the outer cells -/
def Ev (B : BT) (U : State) : Prop :=
  va_K B.2.1 vwCl (tyB B) U ∧ (∀ t ∈ nestT, va_Nw (.methodLinkNest t.1 t.2.1 t.2.2.1 t.2.2.2) U) ∧ va_AO RX2 U ∧
  (va_Z RX1 "SIZE_BODIES" "[I" (.ref (B.2.2.1 1)) (AA B) U U.heap ∧ va_T .int (B.2.2.1 1) 6 (fun j => .int (sizeB j)) (AA B) U U.heap) ∧
  (va_Z RX1 "MARK_BODIES" "[I" (.ref (B.2.2.1 2)) (AA B) U U.heap ∧ va_T .int (B.2.2.1 2) 6 (fun j => .int (markB j)) (AA B) U U.heap)
theorem Ev.moved {B : BT} {s U : State} (hW : s.WarmedH U.vm) (hq : ∀ q : Nat, q < s.heap.size → ¬ AA B q → U.heap[q]? = s.heap[q]?) (h : Ev B s) : Ev B U := by
  obtain ⟨h1, h2, h3, ⟨h4, h5⟩, h6, h7⟩ := h
  exact ⟨h1.moved hW.alike, fun t ht => va_Nw.warmM hW (h2 t ht), h3.moved hW.alike, ⟨(h4.moved hW.alike).kept hq, (h5.moved hW.alike).kept hq⟩, (h6.moved hW.alike).kept hq, (h7.moved hW.alike).kept hq⟩
theorem Ev.same {B : BT} {s U : State} (hW : s.vm = U.vm) (hq : U.heap = s.heap) (h : Ev B s) : Ev B U := by
  obtain ⟨h1, h2, h3, ⟨h4, h5⟩, h6, h7⟩ := h
  have al : s.vm.Alike U.vm := by rw [hW]; exact Vm.Alike.refl _
  have hk : ∀ q : Nat, q < s.heap.size → ¬ AA B q → U.heap[q]? = s.heap[q]? := fun q _ _ => by rw [hq]
  exact ⟨h1.moved al, fun t ht => va_Nw.same rfl hW (h2 t ht), h3.moved al, ⟨(h4.moved al).kept hk, (h5.moved al).kept hk⟩, (h6.moved al).kept hk, (h7.moved al).kept hk⟩
theorem cz_cat (B : BT) (v : Value) : (cz B v).category = v.category := by cases v <;> rfl
theorem cz_sum (B : BT) (S : List Value) : ((S.map (cz B)).map fun v => v.category).sum = (S.map fun v => v.category).sum := by
  rw [List.map_map]
  congr 1
  apply List.map_congr_left
  intro v _
  exact cz_cat B v
/-! overriding -/
theorem ov_mem : ∀ {w : WA} {f : Nat → CA} {i : Nat} {c : CA}, (w.map (·.1)).Nodup → (i, c) ∈ w → ov w f i = c := by
  intro w
  induction w with
  | nil => intro f i c _ h; cases h
  | cons q w ih =>
    intro f i c hn h
    rw [List.map_cons, List.nodup_cons] at hn
    rcases List.mem_cons.mp h with h | h
    · subst h; simp [ov]
    · have : i ≠ q.1 := fun e => hn.1 (by rw [← e]; exact List.mem_map.mpr ⟨_, h, rfl⟩)
      simp only [ov, if_neg this]
      exact ih hn.2 h
theorem ov_out : ∀ {w : WA} {f : Nat → CA} {i : Nat}, i ∉ w.map (·.1) → ov w f i = f i := by
  intro w
  induction w with
  | nil => intro f i _; rfl
  | cons q w ih =>
    intro f i h
    rw [List.map_cons, List.mem_cons, not_or] at h
    simp only [ov, if_neg h.1]
    exact ih h.2
theorem ov_set {w : WA} {f : Nat → CA} {q k : Nat} {c0 c : CA} (hn : (w.map (·.1)).Nodup) (hq : w[q]? = some (k, c0)) : ov (w.set q (k, c)) f = va_up (ov w f) k c := by
  induction w generalizing q with
  | nil => simp at hq
  | cons x w ih =>
    rw [List.map_cons, List.nodup_cons] at hn
    funext i
    cases q with
    | zero =>
      rw [List.getElem?_cons_zero] at hq
      cases hq
      simp only [List.set_cons_zero, ov, va_up]
      by_cases h : i = k <;> simp [h]
    | succ q =>
      rw [List.getElem?_cons_succ] at hq
      simp only [List.set_cons_succ, ov]
      rw [ih hn.2 hq]
      have : k ≠ x.1 := fun e => hn.1 (by rw [← e]; exact List.mem_map.mpr ⟨_, List.mem_of_getElem? hq, rfl⟩)
      simp only [va_up, ov]
      by_cases h : i = k
      · subst h; simp [this]
      · by_cases h2 : i = x.1 <;> simp [h, h2]
        intro e; exact absurd e.symm this
theorem keys_set {w : WA} {q k : Nat} {c0 c : CA} (hq : w[q]? = some (k, c0)) : (w.set q (k, c)).map (·.1) = w.map (·.1) := by
  induction w generalizing q with
  | nil => simp at hq
  | cons x w ih =>
    cases q with
    | zero => rw [List.getElem?_cons_zero] at hq; cases hq; rfl
    | succ q => rw [List.getElem?_cons_succ] at hq; simp only [List.set_cons_succ, List.map_cons, ih hq]
/-- cells of a callee put back among the caller's -/
def putAt : WA → List Nat → WA → WA
  | w, p :: ps, q :: w' => (putAt w ps w').set p q
  | w, _, _ => w
theorem putAt_keys : ∀ {w : WA} {ps : List Nat} {w' : WA}, ps.map (fun p => (w.map (·.1))[p]?) = w'.map (fun q => some q.1) → (putAt w ps w').map (·.1) = w.map (·.1) := by
  intro w ps
  induction ps with
  | nil => intro w' _; cases w' <;> rfl
  | cons p ps ih =>
    intro w' h
    cases w' with
    | nil => rfl
    | cons q w' =>
      rw [List.map_cons, List.map_cons, List.cons.injEq] at h
      have h1 := ih h.2
      have h2 : ((putAt w ps w').map (·.1))[p]? = some q.1 := by rw [h1]; exact h.1
      rw [List.getElem?_map] at h2
      cases h3 : (putAt w ps w')[p]? with
      | none => rw [h3] at h2; cases h2
      | some x =>
        rw [h3] at h2
        have e : x.1 = q.1 := by simpa using h2
        obtain ⟨x1, x2⟩ := x
        obtain ⟨q1, q2⟩ := q
        cases e
        exact (keys_set h3).trans h1
theorem putAt_ov {w : WA} {f : Nat → CA} (hn : (w.map (·.1)).Nodup) : ∀ {ps : List Nat} {w' : WA}, ps.map (fun p => (w.map (·.1))[p]?) = w'.map (fun q => some q.1) → ov w' (ov w f) = ov (putAt w ps w') f := by
  intro ps
  induction ps with
  | nil => intro w' h; cases w' with
    | nil => rfl
    | cons q w' => cases h
  | cons p ps ih =>
    intro w' h
    cases w' with
    | nil => rfl
    | cons q w' =>
      rw [List.map_cons, List.map_cons, List.cons.injEq] at h
      have h1 := putAt_keys h.2
      have h2 : ((putAt w ps w').map (·.1))[p]? = some q.1 := by rw [h1]; exact h.1
      rw [List.getElem?_map] at h2
      cases h3 : (putAt w ps w')[p]? with
      | none => rw [h3] at h2; cases h2
      | some x =>
        rw [h3] at h2
        have e : x.1 = q.1 := by simpa using h2
        obtain ⟨x1, x2⟩ := x
        obtain ⟨q1, q2⟩ := q
        cases e
        show ov ((x1, q2) :: w') (ov w f) = ov ((putAt w ps w').set p (x1, q2)) f
        rw [ov_set (by rw [h1]; exact hn) h3, ← ih h.2]
        funext i
        simp [ov, va_up]
def pick (w : WA) (ps : List Nat) : WA := ps.filterMap (fun p => w[p]?)
theorem pick_ov {w : WA} {f : Nat → CA} (hn : (w.map (·.1)).Nodup) : ∀ (wc : WA), (∀ q ∈ wc, q ∈ w) → ov wc (ov w f) = ov w f := by
  intro wc
  induction wc with
  | nil => intro _; rfl
  | cons q wc ih =>
    intro h
    funext i
    simp only [ov]
    rw [ih (fun x hx => h x (List.mem_cons_of_mem _ hx))]
    by_cases e : i = q.1
    · rw [if_pos e, e]
      exact (ov_mem hn (h q List.mem_cons_self)).symm
    · rw [if_neg e]
theorem wl_get {B : BT} {g : Nat → CA} {z i : Nat} (h : i < z) : (wl B g z)[i]? = some (B.1 + i, cE B (g i)) := by
  simp [wl, h]
theorem wl_set {B : BT} {g : Nat → CA} {z i : Nat} {c : CA} (h : i < z) : (wl B g z).set i (B.1 + i, cE B c) = wl B (va_up g i c) z := by
  apply List.ext_getElem?
  intro j
  by_cases hj : j < z
  · rw [wl_get hj]
    by_cases e : i = j
    · subst e
      rw [List.getElem?_set_self (by simp [wl, h])]
      simp [va_up]
    · rw [List.getElem?_set_ne e, wl_get hj]
      simp [va_up, Ne.symm e]
  · rw [List.getElem?_eq_none (by simp [wl]; omega), List.getElem?_eq_none (by simp [wl]; omega)]
theorem wl_push {B : BT} {g : Nat → CA} {z : Nat} {c : CA} : wl B g z ++ [(B.1 + z, cE B c)] = wl B (va_up g z c) (z + 1) := by
  unfold wl
  rw [List.range_succ, List.map_append]
  congr 1
  · apply List.map_congr_left
    intro i hi
    have : i ≠ z := Nat.ne_of_lt (List.mem_range.mp hi)
    simp [va_up, this]
  · simp [va_up]
theorem wl_D {B : BT} {g : Nat → CA} {z : Nat} : va_D (AA B) (wl B g z) := by
  refine ⟨fun i j p q hi hj e => ?_, fun k q hk => ?_⟩
  · have h1 := (List.getElem?_eq_some_iff.mp hi).1
    have h2 := (List.getElem?_eq_some_iff.mp hj).1
    simp only [wl, List.length_map, List.length_range] at h1 h2
    rw [wl_get h1] at hi
    rw [wl_get h2] at hj
    cases hi; cases hj
    exact Nat.add_left_cancel e
  · have h1 := (List.getElem?_eq_some_iff.mp hk).1
    simp only [wl, List.length_map, List.length_range] at h1
    rw [wl_get h1] at hk
    cases hk
    exact Nat.le_add_right _ _
theorem Rp.cell {B : BT} {w : WA} {f : Nat → CA} {z : Nat} {H : Heap} (h : Rp B w f z H) {q i : Nat} {c : CA} (hq : w[q]? = some (i, c)) : i < z ∧ (wl B (ov w f) z)[i]? = some (B.1 + i, cE B c) := by
  have hm := List.mem_of_getElem? hq
  have hi := h.2.1 _ hm
  exact ⟨hi, by rw [wl_get hi, ov_mem h.1 hm]⟩
theorem Rp.set {B : BT} {w : WA} {f : Nat → CA} {z : Nat} {H H1 : Heap} (h : Rp B w f z H) {q i : Nat} {c0 c : CA} (hq : w[q]? = some (i, c0)) (hP : va_P B.2.1 vwCl ((wl B (ov w f) z).set i (B.1 + i, cE B c)) H1) : Rp B (w.set q (i, c)) f z H1 := by
  obtain ⟨hi, -⟩ := h.cell hq
  refine ⟨by rw [keys_set hq]; exact h.1, fun x hx => ?_, ?_⟩
  · rcases List.mem_or_eq_of_mem_set hx with hx | hx
    · exact h.2.1 x hx
    · rw [hx]; exact hi
  · rw [ov_set h.1 hq, ← wl_set hi]
    exact hP
/-- a part of the cells, the rest as it is -/
theorem Rp.part {B : BT} {w : WA} {f : Nat → CA} {z : Nat} {H : Heap} (h : Rp B w f z H) {wc : WA} (hm : ∀ q ∈ wc, q ∈ w) (hn : (wc.map (·.1)).Nodup) : Rp B wc (ov w f) z H :=
  ⟨hn, fun q hq => h.2.1 q (hm q hq), by rw [pick_ov h.1 wc hm]; exact h.2.2⟩
theorem Rp.back {B : BT} {w w' : WA} {f : Nat → CA} {z : Nat} {H H0 : Heap} (h0 : Rp B w f z H0) (ps : List Nat) (hk : ps.map (fun p => (w.map (·.1))[p]?) = w'.map (fun q => some q.1)) (h : Rp B w' (ov w f) z H) : Rp B (putAt w ps w') f z H := by
  refine ⟨by rw [putAt_keys hk]; exact h0.1, fun q hq => ?_, ?_⟩
  · have : q.1 ∈ (putAt w ps w').map (·.1) := List.mem_map.mpr ⟨q, hq, rfl⟩
    rw [putAt_keys hk] at this
    obtain ⟨x, hx, e⟩ := List.mem_map.mp this
    rw [← e]; exact h0.2.1 x hx
  · rw [← putAt_ov h0.1 hk]; exact h.2.2
/-! locals -/
def lL (B : BT) (ls : Array Slot) (nL : Nat) (L : List (Option Value)) : Prop := ls.size = nL ∧ L.length = nL ∧ lv_wf ls ∧ ∀ (i : Nat) (v : Value), L[i]? = some (some v) → ls[i]? = some (.val (cz B v))
def pL (B : BT) (L : List (Option Value)) : List (Nat × Value) := (List.range L.length).filterMap (fun i => (L[i]?.join).map (fun v => (i, cz B v)))
theorem pL_mem {B : BT} {L : List (Option Value)} {q : Nat × Value} : q ∈ pL B L ↔ ∃ v, L[q.1]? = some (some v) ∧ q.2 = cz B v := by
  unfold pL
  rw [List.mem_filterMap]
  constructor
  · rintro ⟨i, -, h⟩
    cases h1 : L[i]? with
    | none => rw [h1] at h; cases h
    | some x =>
      cases x with
      | none => rw [h1] at h; cases h
      | some v => rw [h1] at h; cases h; exact ⟨v, h1, rfl⟩
  · rintro ⟨v, h1, h2⟩
    refine ⟨q.1, List.mem_range.mpr (List.getElem?_eq_some_iff.mp h1).1, ?_⟩
    rw [h1]
    show some (q.1, cz B v) = some q
    rw [← h2]
theorem lL.has {B : BT} {ls : Array Slot} {nL : Nat} {L : List (Option Value)} (h : lL B ls nL L) : lv_has ls nL (pL B L) :=
  ⟨h.1, h.2.2.1, fun q hq => by obtain ⟨v, h1, h2⟩ := pL_mem.mp hq; rw [h2]; exact h.2.2.2 _ _ h1⟩
/-- no long stands just below -/
def okS (L : List (Option Value)) : Nat → Bool
  | 0 => true
  | j + 1 => match L[j]? with
    | some (some (.long _)) => false
    | some (some (.double _)) => false
    | _ => true
theorem okS_spec {L : List (Option Value)} {i j : Nat} {v : Value} (h : okS L i = true) (hj : j + 1 = i) (hv : L[j]? = some (some v)) : ¬ v.category = 2 := by
  subst hj
  simp only [okS, hv] at h
  cases v <;> simp_all [Value.category]
theorem lL.st1 {B : BT} {ls' : Array Slot} {nL i : Nat} {L : List (Option Value)} {v : Value} (hlen : L.length = nL) (hi : i < nL) (ho : okS L i = true) (h : lv_has ls' nL ((i, cz B v) :: (pL B L).filter (fun q => !(q.1 == i) && !(q.1 + 1 == i && q.2.category == 2)))) : lL B ls' nL (L.set i (some v)) := by
  refine ⟨h.1, by simp [hlen], h.2.1, fun j x hx => ?_⟩
  by_cases e : i = j
  · subst e
    rw [List.getElem?_set_self (by omega)] at hx
    cases hx
    exact h.2.2 _ List.mem_cons_self
  · rw [List.getElem?_set_ne e] at hx
    refine h.2.2 (j, cz B x) (List.mem_cons_of_mem _ (List.mem_filter.mpr ⟨pL_mem.mpr ⟨x, hx, rfl⟩, ?_⟩))
    have e2 : (j == i) = false := by simpa using fun z => e z.symm
    simp only [e2, Bool.not_false, Bool.true_and]
    by_cases e3 : j + 1 = i
    · have := okS_spec ho e3 hx
      simp [cz_cat, this]
    · simp [e3]
theorem lL.st2 {B : BT} {ls' : Array Slot} {nL i : Nat} {L : List (Option Value)} {v : Value} (hlen : L.length = nL) (hi : i + 1 < nL) (ho : okS L i = true) (h : lv_has ls' nL ((i, cz B v) :: (pL B L).filter (fun q => !(q.1 == i) && (!(q.1 == i + 1) && !(q.1 + 1 == i && q.2.category == 2))))) : lL B ls' nL ((L.set i (some v)).set (i + 1) none) := by
  refine ⟨h.1, by simp [hlen], h.2.1, fun j x hx => ?_⟩
  by_cases e' : i + 1 = j
  · subst e'
    rw [List.getElem?_set_self (by simp; omega)] at hx
    cases hx
  rw [List.getElem?_set_ne e'] at hx
  by_cases e : i = j
  · subst e
    rw [List.getElem?_set_self (by omega)] at hx
    cases hx
    exact h.2.2 _ List.mem_cons_self
  · rw [List.getElem?_set_ne e] at hx
    refine h.2.2 (j, cz B x) (List.mem_cons_of_mem _ (List.mem_filter.mpr ⟨pL_mem.mpr ⟨x, hx, rfl⟩, ?_⟩))
    have e2 : (j == i) = false := by simpa using fun z => e z.symm
    have e4 : (j == i + 1) = false := by simpa using fun z => e' z.symm
    simp only [e2, e4, Bool.not_false, Bool.true_and]
    by_cases e3 : j + 1 = i
    · have := okS_spec ho e3 hx
      simp [cz_cat, this]
    · simp [e3]
/-! the locals with which a method begins -/
def aL : List Value → List (Option Value)
  | [] => []
  | v :: t => some v :: (if v.category = 2 then none :: aL t else aL t)
theorem aL_args (B : BT) : ∀ (As : List Value) (i j : Nat) (v : Value), (aL As)[j]? = some (some v) → (i + j, cz B v) ∈ lv_args i (As.map (cz B)) := by
  intro As
  induction As with
  | nil => intro i j v h; simp [aL] at h
  | cons a t ih =>
    intro i j v h
    simp only [aL] at h
    simp only [List.map_cons, lv_args, cz_cat]
    cases j with
    | zero =>
      rw [List.getElem?_cons_zero] at h
      cases h
      exact List.mem_cons_self
    | succ j =>
      rw [List.getElem?_cons_succ] at h
      refine List.mem_cons_of_mem _ ?_
      by_cases hc : a.category = 2
      · rw [if_pos hc] at h ⊢
        cases j with
        | zero => rw [List.getElem?_cons_zero] at h; cases h
        | succ j =>
          rw [List.getElem?_cons_succ] at h
          have := ih (i + 2) j v h
          rw [show i + (j + 1 + 1) = i + 2 + j by omega]; exact this
      · rw [if_neg hc] at h ⊢
        have := ih (i + 1) j v h
        rw [show i + (j + 1) = i + 1 + j by omega]; exact this
theorem aL_len (B : BT) : ∀ (As : List Value), (lg_sl (As.map (cz B))).length = (aL As).length := by
  intro As
  induction As with
  | nil => rfl
  | cons a t ih =>
    have e : lg_sl ((a :: t).map (cz B)) = (if (cz B a).category = 2 then [Slot.val (cz B a), Slot.second] else [Slot.val (cz B a)]) ++ lg_sl (t.map (cz B)) := rfl
    rw [e, List.length_append, ih, cz_cat]
    simp only [aL]
    by_cases hc : a.category = 2 <;> simp [hc] <;> omega
theorem lL.entry {B : BT} {As : List Value} {nL : Nat} {L : List (Option Value)} (hL : L = aL As ++ List.replicate (nL - (aL As).length) none) (hn : (aL As).length ≤ nL) : lL B ((lg_sl (As.map (cz B)) ++ List.replicate (nL - (lg_sl (As.map (cz B))).length) Slot.unset).toArray) nL L := by
  have h := lv_entry (As.map (cz B)) (n := nL) (by rw [aL_len]; exact hn)
  refine ⟨h.1, by rw [hL]; simp; omega, h.2.1, fun i v hv => ?_⟩
  rw [hL] at hv
  by_cases hi : i < (aL As).length
  · rw [List.getElem?_append_left hi] at hv
    have := h.2.2 (i, cz B v) (by have := aL_args B As 0 i v hv; rwa [Nat.zero_add] at this)
    exact this
  · rw [List.getElem?_append_right (by omega)] at hv
    have := List.eq_of_mem_replicate (List.mem_of_getElem? hv)
    cases this
