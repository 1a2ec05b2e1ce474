/-! rows, in the class -/
theorem sub_toInt {s c : Nat} (hs : s ≤ 1000000) (hc : c < 2147483648) : (nI s - nI c).toInt = (s : Int) - c := by
  rw [Int32.toInt_sub, nI_toInt (by omega), nI_toInt (by omega)]
  exact Int.bmod_eq_of_le (by omega) (by omega)
def HD (s : Nat) (x y : Int32) : Prop := ∃ a c, x = nI a ∧ y = nI c ∧ a + c ≤ s
noncomputable def fnd (σ : MT) (f : Int32) : Int32 × MT := (-1000010 - f, wr σ 3 0 f)
noncomputable def wel (σ : MT) (x : Int32) : Int32 × MT := (x, wr σ 3 0 0)
theorem c_isRow {C : CC} (hC : Clo C) {d : Nat} {M : MT} {K : KT} {x : Int32} (h1 : ∀ r, r < 8 → x = nI r → K (some (.int 1)) M) (h0 : ¬ isPl 8 x → K (some (.int 0)) M) : C d 30 [.ref 1, .int x] M K := by
  refine g_X4_isRow hC (fun X hX => ?_)
  have b14 : ¬ isPl 8 x → X 14 [some (.ref 1), some (.int x)] [] M := fun q => by
    refine b_X4_isRow_14 hX ?_
    conv => whnf
    refine b_X4_isRow_15 hX ?_
    conv => whnf
    exact ⟨Or.inl rfl, h0 q⟩
  refine b_X4_isRow_0 hX ?_
  conv => whnf
  refine ⟨fun q => b14 (fun z => (isPl_pos (by omega) z).1 q), fun q => ?_⟩
  conv => whnf
  refine ⟨fun q2 => b14 (fun z => (isPl_pos (by omega) z).2 q2), fun q2 => ?_⟩
  conv => whnf
  obtain ⟨i, hi, e⟩ := nI_of_lt (P := 8) q (by omega) q2
  exact ⟨Or.inr rfl, h1 i hi e⟩
theorem c_lacks {C : CC} (hC : Clo C) {d : Nat} {M : MT} {K : KT} {r : Nat} (hr : r < 8) (h1 : M 2 r = -1 → K (some (.int 1)) M) (h0 : ¬ M 2 r = -1 → K (some (.int 0)) M) : C d 31 [.ref 1, .int (nI r)] M K := by
  refine g_X4_lacks hC (fun X hX => ?_)
  refine b_X4_lacks_0 hX ?_
  conv => whnf
  refine ⟨r, rfl, hr, ?_⟩
  conv => whnf
  refine ⟨fun q => ?_, fun q => ?_⟩
  · refine b_X4_lacks_14 hX ?_
    conv => whnf
    refine b_X4_lacks_15 hX ?_
    conv => whnf
    exact ⟨Or.inl rfl, h0 q⟩
  · conv => whnf
    exact ⟨Or.inr rfl, h1 q⟩
theorem c_laneOf {C : CC} (hC : Clo C) {d : Nat} {M : MT} {K : KT} {r : Nat} (hr : r < 8) (h : K (some (.int (M 2 r))) M) : C d 32 [.ref 1, .int (nI r)] M K := by
  refine g_X4_laneOf hC (fun X hX => ?_)
  refine b_X4_laneOf_0 hX ?_
  conv => whnf
  refine ⟨r, rfl, hr, ?_⟩
  conv => whnf
  exact h
theorem hold_le {s a : Nat} {y : Int32} (hs : s ≤ 40) (ha : a < 2147483648) {c : Nat} (hc : c < 2147483648) (hy : y = nI c) : nI s - y < nI a ↔ s < a + c := by
  rw [Int32.lt_iff_toInt_lt, hy, sub_toInt (by omega) hc, nI_toInt ha]
  omega
theorem c_holds {C : CC} (hC : Clo C) {d : Nat} {M : MT} {K : KT} {r s : Nat} {x y : Int32} (hr : r < 8) (hs : M 3 r = nI s) (h40 : s ≤ 40) (h1 : ∀ a c, x = nI a → y = nI c → a + c ≤ s → K (some (.int 1)) M) (h0 : ¬ HD s x y → K (some (.int 0)) M) : C d 33 [.ref 1, .int (nI r), .int x, .int y] M K := by
  refine g_X4_holds hC (fun X hX => ?_)
  have b24 : ¬ HD s x y → X 24 [some (.ref 1), some (.int (nI r)), some (.int x), some (.int y)] [] M := fun q => by
    refine b_X4_holds_24 hX ?_
    conv => whnf
    refine b_X4_holds_25 hX ?_
    conv => whnf
    exact ⟨Or.inl rfl, h0 q⟩
  refine b_X4_holds_0 hX ?_
  conv => whnf
  refine ⟨fun q => b24 ?_, fun q => ?_⟩
  · rintro ⟨a, c, rfl, rfl, h⟩; exact nI_pos (by omega) q
  conv => whnf
  refine ⟨fun q2 => b24 ?_, fun q2 => ?_⟩
  · rintro ⟨a, c, rfl, rfl, h⟩; exact nI_pos (by omega) q2
  conv => whnf
  refine ⟨r, rfl, hr, ?_⟩
  conv => whnf
  obtain ⟨a, ha, rfl⟩ := nI_of q
  obtain ⟨c, hc, rfl⟩ := nI_of q2
  rw [hs, hold_le h40 ha hc rfl]
  refine ⟨fun q3 => b24 ?_, fun q3 => ?_⟩
  · rintro ⟨a', c', e1, e2, h⟩
    have := (eq_nI ha (by omega)).mp e1
    have := (eq_nI hc (by omega)).mp e2
    omega
  · conv => whnf
    exact ⟨Or.inr rfl, h1 a c rfl rfl (by omega)⟩
def zer (g : Nat → Int32) (r n : Nat) : Nat → Int32 := fun i => if 40 * r ≤ i ∧ i < 40 * r + n then 0 else g i
theorem c_make {C : CC} (hC : Clo C) {d : Nat} {M : MT} {K : KT} {r : Nat} {l n : Int32} (hr : r < 8) (hK : ∀ M', (M' 2 = upd (M 2) r l) → (M' 3 = upd (M 3) r n) → (∀ i, M' 4 i = zer (M 4) r 40 i) → Fm M M' 2 5 → K none M') : C d 34 [.ref 1, .int (nI r), .int l, .int n] M K := by
  refine g_X4_make hC (fun X hX => ?_)
  have loop : ∀ (m k : Nat) (M' : MT), k + m = 40 → M' 2 = upd (M 2) r l → M' 3 = upd (M 3) r n → (∀ i, M' 4 i = zer (M 4) r k i) → Fm M M' 2 5 → X 17 [some (.ref 1), some (.int (nI r)), some (.int l), some (.int n), some (.int (nI k))] [] M' := by
    intro m
    induction m with
    | zero =>
      intro k M' hk h1 h2 h3 h4
      have hk : k = 40 := by omega
      subst hk
      refine b_X4_make_17 hX ?_
      conv => whnf
      refine ⟨fun q => ?_, fun q => absurd (by decide) q⟩
      refine b_X4_make_43 hX ?_
      conv => whnf
      exact hK M' h1 h2 h3 h4
    | succ m ih =>
      intro k M' hk h1 h2 h3 h4
      refine b_X4_make_17 hX ?_
      conv => whnf
      refine ⟨fun q => absurd ((le_nI (a := 40) (by omega) (by omega)).mp q) (by omega), fun q => ?_⟩
      conv => whnf
      refine ⟨40 * r + k, by rw [Nat.mul_comm]; exact (by simp only [lit_nI, nI_add, nI_mul]), by omega, ?_⟩
      conv => whnf
      rw [nI_1]
      refine ih (k + 1) _ (by omega) (by rw [wr_off (by decide)]; exact h1) (by rw [wr_off (by decide)]; exact h2) (fun i => ?_) (h4.tr (Fm.wr Fm.rf (by decide) (by decide)))
      by_cases e : i = 40 * r + k
      · subst e; rw [wr_at]; unfold zer; rw [if_pos (by omega)]
      · rw [wr_ne e, h3 i]
        unfold zer
        by_cases e2 : 40 * r ≤ i ∧ i < 40 * r + k
        · rw [if_pos e2, if_pos (by omega)]
        · rw [if_neg e2, if_neg (by omega)]
  refine b_X4_make_0 hX ?_
  conv => whnf
  refine ⟨r, rfl, hr, ?_⟩
  conv => whnf
  refine ⟨r, rfl, hr, ?_⟩
  conv => whnf
  refine loop 40 0 _ (by omega) ?_ ?_ (fun i => ?_) (Fm.wr (Fm.wr Fm.rf (by decide) (by decide)) (by decide) (by decide))
  · rw [wr_off (by decide), wr_self]
  · rw [wr_self, wr_off (by decide)]
  · rw [wr_off (by decide), wr_off (by decide)]
    unfold zer
    rw [if_neg (by omega)]
def cutS (l v : Int32) : Int32 := if l = 0 then v.toInt8.toInt32 else if l = 1 then v.toInt16.toInt32 else v
theorem c_put {C : CC} (hC : Clo C) {d : Nat} {M : MT} {K : KT} {r i : Nat} {v : Int32} (hr : r < 8) (hi : i < 40) (hK : K (some (.int (cutS (M 2 r) v))) (wr M 4 (40 * r + i) (cutS (M 2 r) v))) : C d 35 [.ref 1, .int (nI r), .int (nI i), .int v] M K := by
  refine g_X4_put hC (fun X hX => ?_)
  have b30 : X 30 [some (.ref 1), some (.int (nI r)), some (.int (nI i)), some (.int v), none] [.int (cutS (M 2 r) v)] M := by
    refine b_X4_put_30 hX ?_
    conv => whnf
    refine ⟨40 * r + i, by rw [Nat.mul_comm]; exact (by simp only [lit_nI, nI_add, nI_mul]), by omega, ?_⟩
    conv => whnf
    exact hK
  unfold cutS at b30
  refine b_X4_put_0 hX ?_
  conv => whnf
  refine ⟨r, rfl, hr, ?_⟩
  conv => whnf
  refine ⟨fun q => ?_, fun q => ?_⟩
  · rw [if_neg q] at b30
    refine b_X4_put_14 hX ?_
    conv => whnf
    refine ⟨r, rfl, hr, ?_⟩
    conv => whnf
    refine ⟨fun q2 => ?_, fun q2 => ?_⟩
    · rw [if_neg q2] at b30
      refine b_X4_put_29 hX ?_
      conv => whnf
      exact b30
    · rw [if_pos q2] at b30
      conv => whnf
      exact b30
  · rw [if_pos q] at b30
    conv => whnf
    exact b30
theorem c_carry {C : CC} (hC : Clo C) {d : Nat} (hd : 1 ≤ d) {M : MT} {K : KT} {a i b j n : Nat} (ha : a < 8) (hb : b < 8) (h1 : i + n ≤ 40) (h2 : j + n ≤ 40) (hK : K none (cp M 4 4 (40 * a + i) (40 * b + j) n)) : C d 36 [.ref 1, .int (nI a), .int (nI i), .int (nI b), .int (nI j), .int (nI n)] M K := by
  refine g_X4_carry hC (fun X hX => ?_)
  refine b_X4_carry_0 hX ?_
  conv => whnf
  refine ⟨by omega, 40 * a + i, 40 * b + j, n, by rw [Nat.mul_comm]; exact (by simp only [lit_nI, nI_add, nI_mul]), by rw [Nat.mul_comm]; exact (by simp only [lit_nI, nI_add, nI_mul]), rfl, by omega, by omega, ?_⟩
  conv => whnf
  exact hK
theorem c_lend {C : CC} (hC : Clo C) {d : Nat} (hd : 1 ≤ d) {M : MT} {K : KT} {r i n : Nat} (hr : r < 8) (h1 : i + n ≤ 40) (hK : K none (cp M 4 5 (40 * r + i) 0 n)) : C d 37 [.ref 1, .int (nI r), .int (nI i), .int (nI n)] M K := by
  refine g_X4_lend hC (fun X hX => ?_)
  refine b_X4_lend_0 hX ?_
  conv => whnf
  refine ⟨by omega, 40 * r + i, 0, n, by rw [Nat.mul_comm]; exact (by simp only [lit_nI, nI_add, nI_mul]), rfl, rfl, by omega, by omega, ?_⟩
  conv => whnf
  exact hK
theorem c_forget {C : CC} (hC : Clo C) {d : Nat} {M : MT} {K : KT} {r : Nat} (hr : r < 8) (hK : K (some (.int (M 3 r))) (wr M 2 r (-1))) : C d 38 [.ref 1, .int (nI r)] M K := by
  refine g_X4_forget hC (fun X hX => ?_)
  refine b_X4_forget_0 hX ?_
  conv => whnf
  refine ⟨r, rfl, hr, ?_⟩
  conv => whnf
  refine ⟨r, rfl, hr, ?_⟩
  conv => whnf
  rw [wr_off (by decide)]
  exact hK
def manyS (l : Nat → Int32) : Nat → Int32
  | 0 => 0
  | n + 1 => if l n = -1 then manyS l n else manyS l n + 1
theorem c_howMany {C : CC} (hC : Clo C) {d : Nat} (hd : 1 ≤ d) {M : MT} {K : KT} (hK : K (some (.int (manyS (M 2) 8))) M) : C d 39 [.ref 1] M K := by
  refine g_X4_howMany hC (fun X hX => ?_)
  have loop : ∀ (m k : Nat), k + m = 8 → X 4 [some (.ref 1), some (.int (manyS (M 2) k)), some (.int (nI k))] [] M := by
    intro m
    induction m with
    | zero =>
      intro k hk
      have hk : k = 8 := by omega
      subst hk
      refine b_X4_howMany_4 hX ?_
      conv => whnf
      refine ⟨fun q => ?_, fun q => absurd (by decide) q⟩
      refine b_X4_howMany_27 hX ?_
      conv => whnf
      exact hK
    | succ m ih =>
      intro k hk
      have b21 : ∀ s, s = manyS (M 2) (k + 1) → X 21 [some (.ref 1), some (.int s), some (.int (nI k))] [] M := fun s hs => by
        refine b_X4_howMany_21 hX ?_
        conv => whnf
        rw [nI_1, hs]
        exact ih (k + 1) (by omega)
      refine b_X4_howMany_4 hX ?_
      conv => whnf
      refine ⟨fun q => absurd ((le_nI (a := 8) (by omega) (by omega)).mp q) (by omega), fun q => ?_⟩
      conv => whnf
      refine ⟨by omega, c_lacks hC (by omega) (fun q1 => ?_) (fun q0 => ?_)⟩
      · conv => whnf
        refine ⟨fun _ => b21 _ (if_pos q1).symm, fun z => absurd z (by decide)⟩
      · conv => whnf
        refine ⟨fun z => absurd rfl z, fun _ => ?_⟩
        conv => whnf
        exact b21 _ (if_neg q0).symm
  refine b_X4_howMany_0 hX ?_
  conv => whnf
  exact loop 8 0 (by omega)
theorem c_found {C : CC} (hC : Clo C) {d : Nat} {M : MT} {K : KT} {f : Int32} (hK : K (some (.int (-1000010 - f))) (wr M 0 10 f)) : C d 116 [.ref 0, .int f] M K := by
  refine g_X7_found hC (fun X hX => ?_)
  refine b_X7_found_0 hX ?_
  conv => whnf
  exact hK
theorem c_withoutFinding {C : CC} (hC : Clo C) {d : Nat} {M : MT} {K : KT} {x : Int32} (hK : K (some (.int x)) (wr M 0 10 0)) : C d 117 [.ref 0, .int x] M K := by
  refine g_X7_withoutFinding hC (fun X hX => ?_)
  refine b_X7_withoutFinding_0 hX ?_
  conv => whnf
  exact hK
/-! the calls -/
def tN (x : Int32) : Nat := x.toNatClampNeg
theorem tN_nI {k : Nat} (h : k < 2147483648) : tN (nI k) = k := nI_clamp h
noncomputable def rowR (σ : MT) (row lane n : Int32) : Int32 × MT := pit (isPl 8 row ∧ (0 ≤ lane ∧ lane ≤ 2) ∧ n ≤ 40) (pit (n < 0) (fnd σ 4) (wel (rowsOf σ (upd (σ 0) (tN row) lane) (upd (σ 1) (tN row) n) (zer (σ 2) (tN row) 40)) n)) (-1000001, σ)
theorem cl_row {C : CC} (hC : Clo C) {d : Nat} (hd : 2 ≤ d) {σ M : MT} {K : KT} {row lane n : Int32} (hA : AC σ M) (hK : ∀ M1, AC (rowR σ row lane n).2 M1 → Fm M M1 0 60 → K (some (.int (rowR σ row lane n).1)) M1) : C d 78 [.ref 0, .int row, .int lane, .int n] M K := by
  refine g_X7_row hC (fun X hX => ?_)
  have b26 : ¬ (isPl 8 row ∧ (0 ≤ lane ∧ lane ≤ 2) ∧ n ≤ 40) → X 26 [some (.ref 0), some (.int row), some (.int lane), some (.int n)] [] M := fun q => by
    have e : rowR σ row lane n = (-1000001, σ) := pit_neg q
    rw [e] at hK
    refine b_X7_row_26 hX ?_
    conv => whnf
    exact hK M hA Fm.rf
  refine b_X7_row_0 hX ?_
  conv => whnf
  refine ⟨by omega, c_isRow hC (fun r hr er => ?_) (fun q => ?_)⟩
  · conv => whnf
    refine ⟨fun q => absurd q (by decide), fun _ => ?_⟩
    conv => whnf
    refine ⟨by omega, c_within hC (fun l1 l2 => ?_) (fun q => ?_)⟩
    · conv => whnf
      refine ⟨fun q => absurd q (by decide), fun _ => ?_⟩
      conv => whnf
      refine ⟨fun q => ?_, fun q => b26 (fun z => q z.2.2)⟩
      have ok : isPl 8 row ∧ (0 ≤ lane ∧ lane ≤ 2) ∧ n ≤ 40 := ⟨⟨r, hr, er⟩, ⟨l1, l2⟩, q⟩
      refine b_X7_row_29 hX ?_
      conv => whnf
      refine ⟨fun n0 => ?_, fun n0 => ?_⟩
      · have e : rowR σ row lane n = wel (rowsOf σ (upd (σ 0) (tN row) lane) (upd (σ 1) (tN row) n) (zer (σ 2) (tN row) 40)) n := (pit_pos ok).trans (pit_neg (Int32.not_lt.mpr n0))
        rw [e] at hK
        subst er
        rw [tN_nI (by omega)] at hK
        refine b_X7_row_39 hX ?_
        conv => whnf
        refine ⟨by omega, c_make hC hr (fun M1 g1 g2 g3 g4 => ?_)⟩
        conv => whnf
        refine ⟨by omega, c_withoutFinding hC ?_⟩
        conv => whnf
        refine hK _ (AC.st (hA.rows g4 (fun i hi => ?_) (fun i hi => ?_))) ((g4.mono (by decide) (by decide)).tr (Fm.wr Fm.rf (by decide) (by decide)))
        · rw [g1, g2]
          obtain ⟨h1, h2⟩ := hA.1.1 i hi
          unfold upd
          rw [h1, h2]
          exact ⟨rfl, rfl⟩
        · rw [g3 i]
          unfold zer
          rw [hA.1.2 i hi]
      · have e : rowR σ row lane n = fnd σ 4 := (pit_pos ok).trans (pit_pos (Int32.not_le.mp n0))
        rw [e] at hK
        conv => whnf
        refine ⟨by omega, c_found hC ?_⟩
        conv => whnf
        exact hK _ hA.st (Fm.wr Fm.rf (by decide) (by decide))
    · conv => whnf
      exact ⟨fun _ => b26 (fun z => q z.2.1), fun z => absurd rfl z⟩
  · conv => whnf
    exact ⟨fun _ => b26 (fun z => q z.1), fun z => absurd rfl z⟩
noncomputable def setR (σ : MT) (row i v : Int32) : Int32 × MT := pit (isPl 8 row) (pit (σ 0 (tN row) = -1) (fnd σ 1) (pit (HD (tN (σ 1 (tN row))) i 1) (wel (rowsOf σ (σ 0) (σ 1) (upd (σ 2) (40 * tN row + tN i) (cutS (σ 0 (tN row)) v))) (cutS (σ 0 (tN row)) v)) (fnd σ 2))) (-1000001, σ)
theorem cl_set {C : CC} (hC : Clo C) {d : Nat} (hd : 2 ≤ d) {σ M : MT} {K : KT} {row i v : Int32} (hA : AC σ M) (hW : WF σ) (hK : ∀ M1, AC (setR σ row i v).2 M1 → Fm M M1 0 60 → K (some (.int (setR σ row i v).1)) M1) : C d 79 [.ref 0, .int row, .int i, .int v] M K := by
  refine g_X7_set hC (fun X hX => ?_)
  refine b_X7_set_0 hX ?_
  conv => whnf
  refine ⟨by omega, c_isRow hC (fun r hr er => ?_) (fun q => ?_)⟩
  · conv => whnf
    refine ⟨fun _ => ?_, fun z => absurd z (by decide)⟩
    obtain ⟨hl, s, hs, es⟩ := hW.1 r hr
    obtain ⟨a1, a2⟩ := hA.1.1 r hr
    have e0 : setR σ row i v = pit (σ 0 r = -1) (fnd σ 1) (pit (HD s i 1) (wel (rowsOf σ (σ 0) (σ 1) (upd (σ 2) (40 * r + tN i) (cutS (σ 0 r) v))) (cutS (σ 0 r) v)) (fnd σ 2)) := by
      unfold setR
      rw [pit_pos ⟨r, hr, er⟩, er, tN_nI (by omega), es, tN_nI (by omega)]
    rw [e0] at hK
    subst er
    refine b_X7_set_14 hX ?_
    conv => whnf
    refine ⟨by omega, c_lacks hC hr (fun q1 => ?_) (fun q0 => ?_)⟩
    · rw [a1] at q1
      rw [pit_pos q1] at hK
      conv => whnf
      refine ⟨fun q => absurd q (by decide), fun _ => ?_⟩
      conv => whnf
      refine ⟨by omega, c_found hC ?_⟩
      conv => whnf
      exact hK _ hA.st (Fm.wr Fm.rf (by decide) (by decide))
    · rw [a1] at q0
      rw [pit_neg q0] at hK
      conv => whnf
      refine ⟨fun _ => ?_, fun z => absurd rfl z⟩
      refine b_X7_set_31 hX ?_
      conv => whnf
      refine ⟨by omega, c_holds hC hr (a2.trans es) hs (fun a c ea ec hac => ?_) (fun q2 => ?_)⟩
      · have ec1 : c = 1 := (eq_nI (a := c) (b := 1) (by omega) (by omega)).mp ec.symm
        rw [pit_pos ⟨a, c, ea, ec, hac⟩] at hK
        subst ea
        rw [tN_nI (by omega)] at hK
        conv => whnf
        refine ⟨fun _ => ?_, fun z => absurd z (by decide)⟩
        refine b_X7_set_50 hX ?_
        conv => whnf
        refine ⟨by omega, c_put hC hr (by omega) ?_⟩
        conv => whnf
        refine ⟨by omega, c_withoutFinding hC ?_⟩
        conv => whnf
        rw [a1]
        have f : Fm M (wr M 4 (40 * r + a) (cutS (σ 0 r) v)) 2 5 := Fm.wr Fm.rf (by decide) (by decide)
        refine hK _ (AC.st (hA.rows f (fun j hj => ?_) (fun j hj => ?_))) ((f.mono (by decide) (by decide)).tr (Fm.wr Fm.rf (by decide) (by decide)))
        · rw [wr_off (by decide), wr_off (by decide)]; exact hA.1.1 j hj
        · rw [wr_self]
          unfold upd
          rw [hA.1.2 j hj]
      · rw [pit_neg q2] at hK
        conv => whnf
        refine ⟨fun z => absurd rfl z, fun _ => ?_⟩
        conv => whnf
        refine ⟨by omega, c_found hC ?_⟩
        conv => whnf
        exact hK _ hA.st (Fm.wr Fm.rf (by decide) (by decide))
  · have e : setR σ row i v = (-1000001, σ) := pit_neg q
    rw [e] at hK
    conv => whnf
    refine ⟨fun z => absurd rfl z, fun _ => ?_⟩
    conv => whnf
    exact hK M hA Fm.rf
noncomputable def copyR (σ : MT) (a i b j n : Int32) : Int32 × MT := pit (isPl 8 a ∧ isPl 8 b) (pit (σ 0 (tN a) = -1 ∨ σ 0 (tN b) = -1) (fnd σ 1) (pit (σ 0 (tN a) = σ 0 (tN b)) (pit (HD (tN (σ 1 (tN a))) i n ∧ HD (tN (σ 1 (tN b))) j n) (wel (rowsOf σ (σ 0) (σ 1) (va_cpy (σ 2) (σ 2) (40 * tN a + tN i) (40 * tN b + tN j) (tN n))) n) (fnd σ 2)) (fnd σ 5))) (-1000001, σ)
theorem cl_copy {C : CC} (hC : Clo C) {d : Nat} (hd : 2 ≤ d) {σ M : MT} {K : KT} {a i b j n : Int32} (hA : AC σ M) (hW : WF σ) (hK : ∀ M1, AC (copyR σ a i b j n).2 M1 → Fm M M1 0 60 → K (some (.int (copyR σ a i b j n).1)) M1) : C d 80 [.ref 0, .int a, .int i, .int b, .int j, .int n] M K := by
  refine g_X7_copy hC (fun X hX => ?_)
  have b22 : ¬ (isPl 8 a ∧ isPl 8 b) → X 22 [some (.ref 0), some (.int a), some (.int i), some (.int b), some (.int j), some (.int n)] [] M := fun q => by
    have e : copyR σ a i b j n = (-1000001, σ) := pit_neg q
    rw [e] at hK
    refine b_X7_copy_22 hX ?_
    conv => whnf
    exact hK M hA Fm.rf
  refine b_X7_copy_0 hX ?_
  conv => whnf
  refine ⟨by omega, c_isRow hC (fun r hr er => ?_) (fun q => ?_)⟩
  · conv => whnf
    refine ⟨fun q => absurd q (by decide), fun _ => ?_⟩
    conv => whnf
    refine ⟨by omega, c_isRow hC (fun u hu eu => ?_) (fun q => ?_)⟩
    · conv => whnf
      refine ⟨fun _ => ?_, fun z => absurd z (by decide)⟩
      obtain ⟨hl, s, hs, es⟩ := hW.1 r hr
      obtain ⟨hl', s', hs', es'⟩ := hW.1 u hu
      obtain ⟨a1, a2⟩ := hA.1.1 r hr
      obtain ⟨b1, b2⟩ := hA.1.1 u hu
      have e0 : copyR σ a i b j n = pit (σ 0 r = -1 ∨ σ 0 u = -1) (fnd σ 1) (pit (σ 0 r = σ 0 u) (pit (HD s i n ∧ HD s' j n) (wel (rowsOf σ (σ 0) (σ 1) (va_cpy (σ 2) (σ 2) (40 * r + tN i) (40 * u + tN j) (tN n))) n) (fnd σ 2)) (fnd σ 5)) := by
        unfold copyR
        rw [pit_pos ⟨⟨r, hr, er⟩, ⟨u, hu, eu⟩⟩, er, eu, tN_nI (by omega), tN_nI (by omega), es, es', tN_nI (by omega), tN_nI (by omega)]
      rw [e0] at hK
      subst er
      subst eu
      have b47 : (σ 0 r = -1 ∨ σ 0 u = -1) → X 47 [some (.ref 0), some (.int (nI r)), some (.int i), some (.int (nI u)), some (.int j), some (.int n)] [] M := fun q => by
        rw [pit_pos q] at hK
        refine b_X7_copy_47 hX ?_
        conv => whnf
        refine ⟨by omega, c_found hC ?_⟩
        conv => whnf
        exact hK _ hA.st (Fm.wr Fm.rf (by decide) (by decide))
      refine b_X7_copy_25 hX ?_
      conv => whnf
      refine ⟨by omega, c_lacks hC hr (fun q1 => ?_) (fun q0 => ?_)⟩
      · conv => whnf
        exact ⟨fun _ => b47 (Or.inl (a1 ▸ q1)), fun z => absurd z (by decide)⟩
      · conv => whnf
        refine ⟨fun z => absurd rfl z, fun _ => ?_⟩
        conv => whnf
        refine ⟨by omega, c_lacks hC hu (fun q1 => ?_) (fun q2 => ?_)⟩
        · conv => whnf
          refine ⟨fun z => absurd z (by decide), fun _ => b47 (Or.inr (b1 ▸ q1))⟩
        · rw [a1] at q0
          rw [b1] at q2
          rw [pit_neg (by rintro (z | z); exact q0 z; exact q2 z)] at hK
          conv => whnf
          refine ⟨fun _ => ?_, fun z => absurd rfl z⟩
          refine b_X7_copy_53 hX ?_
          conv => whnf
          refine ⟨by omega, c_laneOf hC hr ?_⟩
          conv => whnf
          refine ⟨by omega, c_laneOf hC hu ?_⟩
          conv => whnf
          rw [a1, b1]
          refine ⟨fun q3 => ?_, fun q3 => ?_⟩
          · rw [pit_pos q3] at hK
            have b107 : ¬ (HD s i n ∧ HD s' j n) → X 107 [some (.ref 0), some (.int (nI r)), some (.int i), some (.int (nI u)), some (.int j), some (.int n)] [] M := fun q => by
              rw [pit_neg q] at hK
              refine b_X7_copy_107 hX ?_
              conv => whnf
              refine ⟨by omega, c_found hC ?_⟩
              conv => whnf
              exact hK _ hA.st (Fm.wr Fm.rf (by decide) (by decide))
            refine b_X7_copy_78 hX ?_
            conv => whnf
            refine ⟨by omega, c_holds hC hr (a2.trans es) hs (fun x y ex ey hxy => ?_) (fun q4 => ?_)⟩
            · conv => whnf
              refine ⟨fun q => absurd q (by decide), fun _ => ?_⟩
              conv => whnf
              refine ⟨by omega, c_holds hC hu (b2.trans es') hs' (fun x' y' ex' ey' hxy' => ?_) (fun q4 => ?_)⟩
              · conv => whnf
                refine ⟨fun _ => ?_, fun z => absurd z (by decide)⟩
                have : y = y' := (eq_nI (by omega) (by omega)).mp (ey.symm.trans ey')
                subst this
                rw [pit_pos ⟨⟨x, y, ex, ey, hxy⟩, ⟨x', y, ex', ey', hxy'⟩⟩] at hK
                subst ex; subst ey; subst ex'
                rw [tN_nI (by omega), tN_nI (by omega), tN_nI (by omega)] at hK
                refine b_X7_copy_113 hX ?_
                conv => whnf
                refine ⟨by omega, c_carry hC (by omega) hr hu (by omega) (by omega) ?_⟩
                conv => whnf
                refine ⟨by omega, c_withoutFinding hC ?_⟩
                conv => whnf
                have f : Fm M (cp M 4 4 (40 * r + x) (40 * u + x') y) 2 5 := Fm.cp Fm.rf (by decide) (by decide)
                refine hK _ (AC.st (hA.rows f (fun k hk => ?_) (fun k hk => ?_))) ((f.mono (by decide) (by decide)).tr (Fm.wr Fm.rf (by decide) (by decide)))
                · rw [cp_off (by decide), cp_off (by decide)]; exact hA.1.1 k hk
                · rw [cp_self]
                  unfold va_cpy
                  by_cases e : 40 * u + x' ≤ k ∧ k < 40 * u + x' + y
                  · rw [if_pos e, if_pos e]; exact hA.1.2 _ (by omega)
                  · rw [if_neg e, if_neg e]; exact hA.1.2 k hk
              · conv => whnf
                exact ⟨fun z => absurd rfl z, fun _ => b107 (fun z => q4 z.2)⟩
            · conv => whnf
              exact ⟨fun _ => b107 (fun z => q4 z.1), fun z => absurd rfl z⟩
          · rw [pit_neg q3] at hK
            conv => whnf
            refine ⟨by omega, c_found hC ?_⟩
            conv => whnf
            exact hK _ hA.st (Fm.wr Fm.rf (by decide) (by decide))
    · conv => whnf
      exact ⟨fun z => absurd rfl z, fun _ => b22 (fun z => q z.2)⟩
  · conv => whnf
    exact ⟨fun _ => b22 (fun z => q z.1), fun z => absurd rfl z⟩
noncomputable def dropR (σ : MT) (row : Int32) : Int32 × MT := pit (isPl 8 row) (pit (σ 0 (tN row) = -1) (fnd σ 1) (wel (rowsOf σ (upd (σ 0) (tN row) (-1)) (σ 1) (σ 2)) (σ 1 (tN row)))) (-1000001, σ)
theorem cl_drop {C : CC} (hC : Clo C) {d : Nat} (hd : 2 ≤ d) {σ M : MT} {K : KT} {row : Int32} (hA : AC σ M) (hK : ∀ M1, AC (dropR σ row).2 M1 → Fm M M1 0 60 → K (some (.int (dropR σ row).1)) M1) : C d 81 [.ref 0, .int row] M K := by
  refine g_X7_drop hC (fun X hX => ?_)
  refine b_X7_drop_0 hX ?_
  conv => whnf
  refine ⟨by omega, c_isRow hC (fun r hr er => ?_) (fun q => ?_)⟩
  · conv => whnf
    refine ⟨fun _ => ?_, fun z => absurd z (by decide)⟩
    obtain ⟨a1, a2⟩ := hA.1.1 r hr
    have e0 : dropR σ row = pit (σ 0 r = -1) (fnd σ 1) (wel (rowsOf σ (upd (σ 0) r (-1)) (σ 1) (σ 2)) (σ 1 r)) := by
      unfold dropR
      rw [pit_pos ⟨r, hr, er⟩, er, tN_nI (by omega)]
    rw [e0] at hK
    subst er
    refine b_X7_drop_14 hX ?_
    conv => whnf
    refine ⟨by omega, c_lacks hC hr (fun q1 => ?_) (fun q0 => ?_)⟩
    · rw [a1] at q1
      rw [pit_pos q1] at hK
      conv => whnf
      refine ⟨fun q => absurd q (by decide), fun _ => ?_⟩
      conv => whnf
      refine ⟨by omega, c_found hC ?_⟩
      conv => whnf
      exact hK _ hA.st (Fm.wr Fm.rf (by decide) (by decide))
    · rw [a1] at q0
      rw [pit_neg q0] at hK
      conv => whnf
      refine ⟨fun _ => ?_, fun z => absurd rfl z⟩
      refine b_X7_drop_31 hX ?_
      conv => whnf
      refine ⟨by omega, c_forget hC hr ?_⟩
      conv => whnf
      refine ⟨by omega, c_withoutFinding hC ?_⟩
      conv => whnf
      rw [a2]
      have f : Fm M (wr M 2 r (-1)) 2 5 := Fm.wr Fm.rf (by decide) (by decide)
      refine hK _ (AC.st (hA.rows f (fun j hj => ?_) (fun j hj => ?_))) ((f.mono (by decide) (by decide)).tr (Fm.wr Fm.rf (by decide) (by decide)))
      · rw [wr_self, wr_off (by decide)]
        unfold upd
        rw [(hA.1.1 j hj).1]
        exact ⟨rfl, (hA.1.1 j hj).2⟩
      · rw [wr_off (by decide)]; exact hA.1.2 j hj
  · have e : dropR σ row = (-1000001, σ) := pit_neg q
    rw [e] at hK
    conv => whnf
    refine ⟨fun z => absurd rfl z, fun _ => ?_⟩
    conv => whnf
    exact hK M hA Fm.rf
