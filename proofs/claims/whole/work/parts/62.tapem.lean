/-! THE REFERENCE READS -/
def TMo (g : Nat → Int32) (T a : Nat) (M : MT) : Prop := M 61 9 = nI T ∧ T ≤ 140 ∧ M 61 11 = nI a ∧ ∀ i, i < 140 → M 68 i = g i
def FLm (f : Int32) (p : Nat) (M : MT) : Prop := M 61 13 = f ∧ M 61 12 = nI p
def Fp (M M' : MT) : Prop := (∀ q, q ≠ 61 → M' q = M q) ∧ ∀ k, ¬ (11 ≤ k ∧ k ≤ 14) → M' 61 k = M 61 k
theorem Fp.rf {M : MT} : Fp M M := ⟨fun _ _ => rfl, fun _ _ => rfl⟩
theorem Fp.tr {M M1 M2 : MT} (h1 : Fp M M1) (h2 : Fp M1 M2) : Fp M M2 := ⟨fun q a => (h2.1 q a).trans (h1.1 q a), fun k a => (h2.2 k a).trans (h1.2 k a)⟩
theorem Fp.sw {M M' : MT} {k : Nat} {v : Int32} (h : Fp M M') (h1 : 11 ≤ k) (h2 : k ≤ 14) : Fp M (wr M' 61 k v) := ⟨fun q a => by rw [wr_off a]; exact h.1 q a, fun j a => by rw [wr_ne (by omega)]; exact h.2 j a⟩
theorem TMo.kp {g : Nat → Int32} {T a k : Nat} {v : Int32} {M : MT} (h : TMo g T a M) (h9 : k ≠ 9) (h11 : k ≠ 11) : TMo g T a (wr M 61 k v) := by
  obtain ⟨e1, e2, e3, e4⟩ := h
  exact ⟨by rw [wr_ne (Ne.symm h9)]; exact e1, e2, by rw [wr_ne (Ne.symm h11)]; exact e3, fun i hi => by rw [wr_off (by decide)]; exact e4 i hi⟩
theorem TMo.at {g : Nat → Int32} {T a a' : Nat} {M : MT} (h : TMo g T a M) : TMo g T a' (wr M 61 11 (nI a')) := by
  obtain ⟨e1, e2, e3, e4⟩ := h
  exact ⟨by rw [wr_ne (by decide)]; exact e1, e2, wr_at, fun i hi => by rw [wr_off (by decide)]; exact e4 i hi⟩
theorem m_byteAt {C : CC} (hC : Clo C) {d : Nat} {M : MT} {K : KT} {g : Nat → Int32} {T a i : Nat} (hT : TMo g T a M) (hi : i < 1000000) (hK : K (some (.int (byt g T i))) M) : C d 134 [.ref 61, .int (nI i)] M K := by
  obtain ⟨e1, e2, e3, e4⟩ := hT
  unfold byt at hK
  refine g_X8_byteAt hC (fun X hX => ?_)
  refine b_X8_byteAt_0 hX ?_
  conv => whnf
  rw [e1]
  refine ⟨fun q => ?_, fun q => ?_⟩
  · rw [if_neg (by have := (le_nI (by omega) (by omega)).mp q; omega)] at hK
    refine b_X8_byteAt_17 hX ?_
    conv => whnf
    refine b_X8_byteAt_18 hX ?_
    conv => whnf
    exact hK
  · have z : i < T := by
      rcases Nat.lt_or_ge i T with z | z
      · exact z
      · exact absurd ((le_nI (by omega) (by omega)).mpr z) q
    rw [if_pos z] at hK
    conv => whnf
    refine ⟨i, rfl, by omega, ?_⟩
    conv => whnf
    rw [e4 i (by omega)]
    exact hK
theorem m_isFigure {C : CC} (hC : Clo C) {d : Nat} (hd : 1 ≤ d) {M : MT} {K : KT} {g : Nat → Int32} {T a i : Nat} (hT : TMo g T a M) (hi : i < 1000000) (h1 : fig (byt g T i) → K (some (.int 1)) M) (h0 : ¬ fig (byt g T i) → K (some (.int 0)) M) : C d 135 [.ref 61, .int (nI i)] M K := by
  refine g_X8_isFigure hC (fun X hX => ?_)
  refine b_X8_isFigure_0 hX ?_
  conv => whnf
  refine ⟨by omega, m_byteAt hC hT hi ?_⟩
  conv => whnf
  refine ⟨by omega, m_in hC (fun a b => ?_) (fun q => ?_)⟩
  · conv => whnf
    exact ⟨Or.inr rfl, h1 ⟨a, b⟩⟩
  · conv => whnf
    exact ⟨Or.inl rfl, h0 q⟩
theorem m_takes {C : CC} (hC : Clo C) {d : Nat} (hd : 2 ≤ d) {M : MT} {K : KT} {g : Nat → Int32} {T a : Nat} {c : Int32} (hT : TMo g T a M) (ha : a ≤ T) (hc : ¬ c = -1) (h1 : ∀ M', byt g T a = c → (∀ k, tkP g T c a k = k (a + 1)) → a + 1 ≤ T → TMo g T (a + 1) M' → Fp M M' → K (some (.int 1)) M') (h0 : ∀ M', (∀ k, tkP g T c a k = .inr (1, a)) → FLm 1 a M' → Fp M M' → K (some (.int 0)) M') : C d 136 [.ref 61, .int c] M K := by
  have hT1 := hT.2.1
  refine g_X8_takes hC (fun X hX => ?_)
  refine b_X8_takes_0 hX ?_
  conv => whnf
  have t2 : TMo g T a (wr (wr M 61 12 (nI a)) 61 13 1) := (hT.kp (by decide) (by decide)).kp (by decide) (by decide)
  have f2 : Fp M (wr (wr M 61 12 (nI a)) 61 13 1) := Fp.sw (Fp.sw Fp.rf (by decide) (by decide)) (by decide) (by decide)
  have e3 := t2.2.2.1
  rw [hT.2.2.1, e3]
  refine ⟨by omega, m_byteAt hC t2 (by omega) ?_⟩
  conv => whnf
  refine ⟨fun q => ?_, fun q => ?_⟩
  · refine b_X8_takes_29 hX ?_
    conv => whnf
    refine b_X8_takes_30 hX ?_
    conv => whnf
    refine ⟨fun _ => ?_, fun z => absurd rfl z⟩
    refine b_X8_takes_44 hX ?_
    conv => whnf
    refine b_X8_takes_45 hX ?_
    conv => whnf
    rw [e3, Int32.add_zero]
    refine ⟨Or.inl rfl, h0 _ (fun k => if_neg q) ⟨?_, ?_⟩ (Fp.sw f2 (by decide) (by decide))⟩
    · rw [wr_ne (by decide), wr_at]
    · rw [wr_ne (by decide), wr_ne (by decide), wr_at]
  · conv => whnf
    refine b_X8_takes_30 hX ?_
    conv => whnf
    refine ⟨fun q => absurd q (by decide), fun _ => ?_⟩
    conv => whnf
    first
      | (rw [e3, nI_1]
         exact ⟨Or.inr rfl, h1 _ q (fun k => if_pos q) (byt_lt (by rw [q]; exact hc)) t2.at (Fp.sw f2 (by decide) (by decide))⟩)
      | (refine b_X8_takes_45 hX ?_
         conv => whnf
         rw [e3, nI_1]
         exact ⟨Or.inr rfl, h1 _ q (fun k => if_pos q) (byt_lt (by rw [q]; exact hc)) t2.at (Fp.sw f2 (by decide) (by decide))⟩)
