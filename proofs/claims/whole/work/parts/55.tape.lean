/-! THE TAPE READ -/
def byt (g : Nat → Int32) (T i : Nat) : Int32 := if i < T then g i else -1
def fig (v : Int32) : Prop := 48 ≤ v ∧ v ≤ 57
def numv (g : Nat → Int32) (T a : Nat) : Nat → Int32
  | 0 => 0
  | k + 1 => 10 * numv g T a k + byt g T (a + k) - 48
noncomputable def numw (g : Nat → Int32) (T a : Nat) : Nat := pit (fig (byt g T a)) (pit (fig (byt g T (a + 1))) (pit (fig (byt g T (a + 2))) 3 2) 1) 0
theorem numw_ok {g : Nat → Int32} {T a w : Nat} (h : ∀ i, i < w → fig (byt g T (a + i))) (hw : w ≤ 3) (h2 : w = 3 ∨ ¬ fig (byt g T (a + w))) : numw g T a = w := by
  unfold numw
  have : w = 0 ∨ w = 1 ∨ w = 2 ∨ w = 3 := by omega
  rcases this with rfl | rfl | rfl | rfl
  · exact pit_neg (h2.resolve_left (by omega))
  · rw [pit_pos (show fig (byt g T a) from h 0 (by omega))]
    exact pit_neg (h2.resolve_left (by omega))
  · rw [pit_pos (show fig (byt g T a) from h 0 (by omega)), pit_pos (h 1 (by omega))]
    exact pit_neg (h2.resolve_left (by omega))
  · rw [pit_pos (show fig (byt g T a) from h 0 (by omega)), pit_pos (h 1 (by omega))]
    exact pit_pos (h 2 (by omega))
def barO (v : Int32) : Int32 := if v = 101 then 0 else if v = 102 then 1 else if v = 113 then 2 else if v = 99 then 3 else if v = 104 then 4 else -1
def kindO (v : Int32) : Int32 := if v = 116 then 1 else if v = 114 then 2 else if v = 100 then 3 else if v = 107 then 4 else if v = 108 then 5 else 0
abbrev PR : Type := BV ⊕ (Int32 × Nat)
def tkP (g : Nat → Int32) (T : Nat) (c : Int32) (a : Nat) (k : Nat → PR) : PR := if byt g T a = c then k (a + 1) else .inr (1, a)
noncomputable def nmP (g : Nat → Int32) (T : Nat) (lo hi : Int32) (a : Nat) (k : Nat → Int32 → PR) : PR := pit (numw g T a = 1 ∨ numw g T a = 2) (pit (lo ≤ numv g T a (numw g T a) ∧ numv g T a (numw g T a) ≤ hi) (k (a + numw g T a) (numv g T a (numw g T a))) (.inr (2, a))) (.inr (1, a))
noncomputable def lawP (g : Nat → Int32) (T : Nat) (k : Nat → BV → PR) : PR := tkP g T 98 0 fun a => nmP g T 0 20 a fun a v0 => tkP g T 44 a fun a => nmP g T 0 20 a fun a v1 => tkP g T 44 a fun a => nmP g T 0 20 a fun a v2 => tkP g T 44 a fun a => nmP g T 40 99 a fun a v3 => tkP g T 59 a fun a => k a (setB (setB (setB (setB (fun _ => 0) 0 v0) 1 v1) 2 v2) 3 v3)
def sngP (g : Nat → Int32) (T : Nat) (k : Nat → BV → PR) : Nat → Nat → BV → PR
  | 0, a, b => if barO (byt g T a) < 0 then (if nB b = 0 then .inr (1, a) else tkP g T 59 a (fun a => k a b)) else .inr (3, a)
  | n + 1, a, b => if barO (byt g T a) < 0 then (if nB b = 0 then .inr (1, a) else tkP g T 59 a (fun a => k a b)) else sngP g T k n (a + 1) (setB (setB b (9 + nB b) (barO (byt g T a))) 4 (nI (nB b + 1)))
noncomputable def plyP (g : Nat → Int32) (T : Nat) (a : Nat) (b : BV) (k : Nat → BV → PR) : PR := nmP g T 40 99 (a + 1) fun a1 v => tkP g T 44 a1 fun a2 => nmP g T 0 9 a2 fun a3 h => tkP g T 59 a3 fun a4 => k a4 (setB (setB (setB (setB b (21 + nP b) (kindO (byt g T a))) (26 + nP b) (10 * v)) (31 + nP b) h) 5 (nI (nP b + 1)))
noncomputable def plsP (g : Nat → Int32) (T : Nat) (k : Nat → BV → PR) : Nat → Nat → BV → PR
  | 0, a, b => if kindO (byt g T a) = 0 then (if nP b = 0 then .inr (1, a) else k a b) else .inr (3, a)
  | n + 1, a, b => if kindO (byt g T a) = 0 then (if nP b = 0 then .inr (1, a) else k a b) else plyP g T a b (fun a b => plsP g T k n a b)
noncomputable def earP (g : Nat → Int32) (T : Nat) (a : Nat) (b : BV) (k : Nat → BV → PR) : PR := nmP g T 0 (b 5 - 1) (a + 1) fun a1 i => tkP g T 44 a1 fun a2 => nmP g T 0 (b 5 - 1) a2 fun a3 j => if i = j ∨ ¬ b (36 + (5 * tN i + tN j)) = 0 then .inr (2, a2) else tkP g T 44 a3 fun a4 => nmP g T 1 9 a4 fun a5 w => tkP g T 59 a5 fun a6 => k a6 (setB b (36 + (5 * tN i + tN j)) w)
noncomputable def ersP (g : Nat → Int32) (T : Nat) : Nat → Nat → BV → PR
  | 0, a, b => if byt g T a = 119 then .inr (3, a) else if byt g T a = -1 then .inl b else .inr (1, a)
  | n + 1, a, b => if byt g T a = 119 then earP g T a b (fun a b => ersP g T n a b) else if byt g T a = -1 then .inl b else .inr (1, a)
noncomputable def bandP (g : Nat → Int32) (T : Nat) : PR := lawP g T fun a b => tkP g T 122 a fun a => sngP g T (fun a b => plsP g T (fun a b => ersP g T 12 a b) 5 a b) 12 a b
noncomputable def bandR (σ : MT) : Int32 × MT := match bandP (σ 4) (tN (σ 3 2)) with
  | .inl b => (b 5, sr (wr (sr (wr σ 3 2 0) 4 (σ 4)) 3 3 0) 5 (setB b 8 1))
  | .inr (f, p) => (-1000100 - nI p, wr (sr (wr σ 3 2 0) 4 (σ 4)) 3 1 f)
/-! the class's tape -/
def TC (g : Nat → Int32) (T a : Nat) (M : MT) : Prop := M 6 1 = nI T ∧ T ≤ 140 ∧ M 6 4 = nI a ∧ ∀ i, i < 140 → M 7 i = g i
theorem TC.fr {g : Nat → Int32} {T a : Nat} {M M' : MT} {lo hi : Nat} (h : TC g T a M) (f : Fm M M' lo hi) (hl : 7 < lo) : TC g T a M' := by
  obtain ⟨h1, h2, h3, h4⟩ := h
  exact ⟨by rw [f 6 (by omega)]; exact h1, h2, by rw [f 6 (by omega)]; exact h3, fun i hi => by rw [f 7 (by omega)]; exact h4 i hi⟩
theorem TC.kp {g : Nat → Int32} {T a k : Nat} {v : Int32} {M : MT} (h : TC g T a M) (h1 : k ≠ 1) (h4 : k ≠ 4) : TC g T a (wr M 6 k v) := by
  obtain ⟨e1, e2, e3, e4⟩ := h
  exact ⟨by rw [wr_ne (Ne.symm h1)]; exact e1, e2, by rw [wr_ne (Ne.symm h4)]; exact e3, fun i hi => by rw [wr_off (by decide)]; exact e4 i hi⟩
theorem TC.at {g : Nat → Int32} {T a a' : Nat} {M : MT} (h : TC g T a M) : TC g T a' (wr M 6 4 (nI a')) := by
  obtain ⟨e1, e2, e3, e4⟩ := h
  exact ⟨by rw [wr_ne (by decide)]; exact e1, e2, wr_at, fun i hi => by rw [wr_off (by decide)]; exact e4 i hi⟩
theorem c_signAt {C : CC} (hC : Clo C) {d : Nat} {M : MT} {K : KT} {g : Nat → Int32} {T a i : Nat} (hT : TC g T a M) (hi : i < 1000000) (hK : K (some (.int (byt g T i))) M) : C d 74 [.ref 6, .int (nI i)] M K := by
  obtain ⟨e1, e2, e3, e4⟩ := hT
  unfold byt at hK
  refine g_X6_signAt hC (fun X hX => ?_)
  refine b_X6_signAt_0 hX ?_
  conv => whnf
  refine ⟨fun q => absurd q (nI_pos (by omega)), fun q => ?_⟩
  conv => whnf
  rw [e1]
  refine ⟨fun q => ?_, fun q => ?_⟩
  · rw [if_neg (by have := (le_nI (by omega) (by omega)).mp q; omega)] at hK
    refine b_X6_signAt_21 hX ?_
    conv => whnf
    refine b_X6_signAt_22 hX ?_
    conv => whnf
    exact hK
  · have z : i < T := by
      rcases Nat.lt_or_ge i T with z | z
      · exact z
      · exact absurd ((le_nI (by omega) (by omega)).mpr z) q
    rw [if_pos z] at hK
    conv => whnf
    refine ⟨i, rfl, by omega, ?_⟩
    conv => whnf
    rw [e4 i (by omega)]
    exact hK
theorem c_sign {C : CC} (hC : Clo C) {d : Nat} (hd : 1 ≤ d) {M : MT} {K : KT} {g : Nat → Int32} {T a : Nat} (hT : TC g T a M) (ha : a < 1000000) (hK : K (some (.int (byt g T a))) M) : C d 73 [.ref 6] M K := by
  refine g_X6_sign hC (fun X hX => ?_)
  refine b_X6_sign_0 hX ?_
  conv => whnf
  rw [hT.2.2.1]
  refine ⟨by omega, c_signAt hC hT ha ?_⟩
  conv => whnf
  exact hK
theorem c_isFigure {C : CC} (hC : Clo C) {d : Nat} {M : MT} {K : KT} {v : Int32} (h1 : fig v → K (some (.int 1)) M) (h0 : ¬ fig v → K (some (.int 0)) M) : C d 75 [.int v] M K := by
  refine g_X6_isFigure hC (fun X hX => ?_)
  have b16 : ¬ fig v → X 16 [some (.int v)] [] M := fun z => by
    refine b_X6_isFigure_16 hX ?_
    conv => whnf
    refine b_X6_isFigure_17 hX ?_
    conv => whnf
    exact ⟨Or.inl rfl, h0 z⟩
  refine b_X6_isFigure_0 hX ?_
  conv => whnf
  refine ⟨fun q => b16 (fun z => absurd q (Int32.not_lt.mpr z.1)), fun q => ?_⟩
  conv => whnf
  refine ⟨fun q2 => b16 (fun z => absurd q2 (Int32.not_lt.mpr z.2)), fun q2 => ?_⟩
  conv => whnf
  exact ⟨Or.inr rfl, h1 ⟨Int32.not_lt.mp q, Int32.not_lt.mp q2⟩⟩
theorem c_fails {C : CC} (hC : Clo C) {d : Nat} {M : MT} {K : KT} {f : Int32} (hK : K (some (.int 0)) (wr (wr M 6 2 f) 6 3 (M 6 4))) : C d 72 [.ref 6, .int f] M K := by
  refine g_X6_fails hC (fun X hX => ?_)
  refine b_X6_fails_0 hX ?_
  conv => whnf
  exact ⟨Or.inl rfl, hK⟩
/-- what was told cannot be read, with this fault at this place -/
def FLc (f : Int32) (p : Nat) (M : MT) : Prop := M 6 2 = f ∧ M 6 3 = nI p
theorem byt_lt {g : Nat → Int32} {T a : Nat} (h : ¬ byt g T a = -1) : a < T := by
  unfold byt at h
  rcases Nat.lt_or_ge a T with z | z
  · exact z
  · exact absurd (if_neg (by omega)) h
theorem fig_lt {g : Nat → Int32} {T a : Nat} (h : fig (byt g T a)) : a < T := byt_lt (fun z => by rw [z] at h; exact absurd h.1 (by decide))
theorem c_takes {C : CC} (hC : Clo C) {d : Nat} (hd : 2 ≤ d) {M : MT} {K : KT} {g : Nat → Int32} {T a : Nat} {c : Int32} (hT : TC g T a M) (ha : a ≤ T) (hc : ¬ c = -1) (h1 : ∀ M', byt g T a = c → (∀ k, tkP g T c a k = k (a + 1)) → a + 1 ≤ T → TC g T (a + 1) M' → Fm M M' 6 6 → K (some (.int 1)) M') (h0 : ∀ M', (∀ k, tkP g T c a k = .inr (1, a)) → FLc 1 a M' → Fm M M' 6 6 → K (some (.int 0)) M') : C d 71 [.ref 6, .int c] M K := by
  have hT1 := hT.2.1
  refine g_X6_takes hC (fun X hX => ?_)
  refine b_X6_takes_0 hX ?_
  conv => whnf
  refine ⟨by omega, c_sign hC (by omega) hT (by omega) ?_⟩
  conv => whnf
  refine ⟨fun q => ?_, fun q => ?_⟩
  · refine b_X6_takes_14 hX ?_
    conv => whnf
    rw [hT.2.2.1, nI_1]
    exact ⟨Or.inr rfl, h1 _ q (fun k => if_pos q) (byt_lt (by rw [q]; exact hc)) hT.at (Fm.wr Fm.rf (by decide) (by decide))⟩
  · conv => whnf
    refine ⟨by omega, c_fails hC ?_⟩
    conv => whnf
    refine ⟨Or.inl rfl, h0 _ (fun k => if_neg q) ⟨?_, ?_⟩ (Fm.wr (Fm.wr Fm.rf (by decide) (by decide)) (by decide) (by decide))⟩
    · rw [wr_ne (by decide), wr_at]
    · rw [wr_at]; exact hT.2.2.1
theorem c_seesNumber {C : CC} (hC : Clo C) {d : Nat} (hd : 1 ≤ d) {M : MT} {K : KT} {g : Nat → Int32} {T a : Nat} (hT : TC g T a M) (ha : a ≤ T) (h1 : ∀ M', (numw g T a = 1 ∨ numw g T a = 2) → a + numw g T a ≤ T → TC g T a M' → M' 6 5 = numv g T a (numw g T a) → M' 6 6 = nI (numw g T a) → Fm M M' 6 6 → K (some (.int 1)) M') (h0 : ∀ M', ¬ (numw g T a = 1 ∨ numw g T a = 2) → TC g T a M' → Fm M M' 6 6 → K (some (.int 0)) M') : C d 70 [.ref 6] M K := by
  have hT1 := hT.2.1
  refine g_X6_seesNumber hC (fun X hX => ?_)
  have b78 : ∀ (w : Nat) (M' : MT), w ≤ 3 → (∀ i, i < w → fig (byt g T (a + i))) → (w = 3 ∨ ¬ fig (byt g T (a + w))) → TC g T a M' → M' 6 5 = numv g T a w → M' 6 6 = nI w → Fm M M' 6 6 → X 78 [some (.ref 6)] [] M' := by
    intro w M' hw hf he ht e5 e6 f
    have hn := numw_ok hf hw he
    have hl : a + w ≤ T := by
      rcases Nat.eq_zero_or_pos w with z | z
      · omega
      · have := fig_lt (hf (w - 1) (by omega)); omega
    have b94 : (w = 1 ∨ w = 2) → X 94 [some (.ref 6)] [] M' := fun z => by
      refine b_X6_seesNumber_94 hX ?_
      conv => whnf
      exact ⟨Or.inr rfl, h1 M' (by rw [hn]; exact z) (by rw [hn]; exact hl) ht (by rw [hn]; exact e5) (by rw [hn]; exact e6) f⟩
    refine b_X6_seesNumber_78 hX ?_
    conv => whnf
    rw [e6]
    refine ⟨fun q => b94 (Or.inl ((eq_nI (b := 1) (by omega) (by omega)).mp q)), fun q => ?_⟩
    conv => whnf
    rw [e6]
    refine ⟨fun q2 => ?_, fun q2 => b94 (Or.inr ((eq_nI (b := 2) (by omega) (by omega)).mp q2))⟩
    refine b_X6_seesNumber_98 hX ?_
    conv => whnf
    refine b_X6_seesNumber_99 hX ?_
    conv => whnf
    refine ⟨Or.inl rfl, h0 M' (fun z => ?_) ht f⟩
    rw [hn] at z
    rcases z with z | z
    · exact q (by rw [z]; rfl)
    · exact q2 (by rw [z]; rfl)
  have loop : ∀ (m w : Nat) (M' : MT), w + m = 3 → (∀ i, i < w → fig (byt g T (a + i))) → TC g T a M' → M' 6 5 = numv g T a w → M' 6 6 = nI w → Fm M M' 6 6 → X 10 [some (.ref 6)] [] M' := by
    intro m
    induction m with
    | zero =>
      intro w M' hw hf ht e5 e6 f
      have hw : w = 3 := by omega
      subst hw
      refine b_X6_seesNumber_10 hX ?_
      conv => whnf
      rw [e6]
      exact ⟨fun q => b78 3 M' (by omega) hf (Or.inl rfl) ht e5 e6 f, fun q => absurd (by decide) q⟩
    | succ m ih =>
      intro w M' hw hf ht e5 e6 f
      refine b_X6_seesNumber_10 hX ?_
      conv => whnf
      rw [e6]
      refine ⟨fun q => absurd ((le_nI (a := 3) (by omega) (by omega)).mp q) (by omega), fun q => ?_⟩
      conv => whnf
      rw [e6, ht.2.2.1, nI_add]
      refine ⟨by omega, c_signAt hC ht (by omega) ?_⟩
      conv => whnf
      refine ⟨by omega, c_isFigure hC (fun z => ?_) (fun z => ?_)⟩
      · conv => whnf
        refine ⟨fun q => absurd q (by decide), fun _ => ?_⟩
        conv => whnf
        rw [e5, e6, ht.2.2.1, nI_add]
        refine ⟨by omega, c_signAt hC ht (by omega) ?_⟩
        conv => whnf
        rw [wr_ne (by decide), e6, nI_1]
        refine ih (w + 1) _ (by omega) (fun i hi => ?_) ((ht.kp (by decide) (by decide)).kp (by decide) (by decide)) ?_ wr_at (Fm.wr (Fm.wr f (by decide) (by decide)) (by decide) (by decide))
        · by_cases z2 : i = w
          · subst z2; exact z
          · exact hf i (by omega)
        · rw [wr_ne (by decide), wr_at]; rfl
      · conv => whnf
        exact ⟨fun _ => b78 w M' (by omega) hf (Or.inr z) ht e5 e6 f, fun z => absurd rfl z⟩
  refine b_X6_seesNumber_0 hX ?_
  conv => whnf
  exact loop 3 0 _ (by omega) (fun i hi => absurd hi (by omega)) ((hT.kp (by decide) (by decide)).kp (by decide) (by decide)) (by rw [wr_ne (by decide), wr_at]; rfl) wr_at (Fm.wr (Fm.wr Fm.rf (by decide) (by decide)) (by decide) (by decide))
theorem c_takesNumber {C : CC} (hC : Clo C) {d : Nat} (hd : 2 ≤ d) {M : MT} {K : KT} {g : Nat → Int32} {T a : Nat} {lo hi : Int32} (hT : TC g T a M) (ha : a ≤ T) (h1 : ∀ M' a' v, (∀ k, nmP g T lo hi a k = k a' v) → a' ≤ T → lo ≤ v → v ≤ hi → TC g T a' M' → M' 6 5 = v → Fm M M' 6 6 → K (some (.int 1)) M') (h0 : ∀ M' f, (∀ k, nmP g T lo hi a k = .inr (f, a)) → FLc f a M' → Fm M M' 6 6 → K (some (.int 0)) M') : C d 69 [.ref 6, .int lo, .int hi] M K := by
  refine g_X6_takesNumber hC (fun X hX => ?_)
  refine b_X6_takesNumber_0 hX ?_
  conv => whnf
  refine ⟨by omega, c_seesNumber hC (by omega) hT ha (fun M1 hn hl t1 e5 e6 f => ?_) (fun M1 hn t1 f => ?_)⟩
  · conv => whnf
    refine ⟨fun _ => ?_, fun z => absurd z (by decide)⟩
    refine b_X6_takesNumber_13 hX ?_
    conv => whnf
    rw [e5]
    refine ⟨by omega, c_within hC (fun p q => ?_) (fun q => ?_)⟩
    · conv => whnf
      refine ⟨fun _ => ?_, fun z => absurd z (by decide)⟩
      refine b_X6_takesNumber_31 hX ?_
      conv => whnf
      rw [e6, t1.2.2.1, nI_add]
      exact ⟨Or.inr rfl, h1 _ (a + numw g T a) (numv g T a (numw g T a)) (fun k => by unfold nmP; rw [pit_pos hn, pit_pos ⟨p, q⟩]) hl p q t1.at (by rw [wr_ne (by decide)]; exact e5) (Fm.wr f (by decide) (by decide))⟩
    · conv => whnf
      refine ⟨fun z => absurd rfl z, fun _ => ?_⟩
      conv => whnf
      refine ⟨by omega, c_fails hC ?_⟩
      conv => whnf
      refine ⟨Or.inl rfl, h0 _ 2 (fun k => by unfold nmP; rw [pit_pos hn, pit_neg q]) ⟨?_, ?_⟩ (Fm.wr (Fm.wr f (by decide) (by decide)) (by decide) (by decide))⟩
      · rw [wr_ne (by decide), wr_at]
      · rw [wr_at]; exact t1.2.2.1
  · conv => whnf
    refine ⟨fun z => absurd rfl z, fun _ => ?_⟩
    conv => whnf
    refine ⟨by omega, c_fails hC ?_⟩
    conv => whnf
    refine ⟨Or.inl rfl, h0 _ 1 (fun k => by unfold nmP; rw [pit_neg hn]) ⟨?_, ?_⟩ (Fm.wr (Fm.wr f (by decide) (by decide)) (by decide) (by decide))⟩
    · rw [wr_ne (by decide), wr_at]
    · rw [wr_at]; exact t1.2.2.1
/-- what is read changes the tape's own cells and the draft alone -/
def Fdr (M M' : MT) : Prop := ∀ q, q ≠ 6 → (q < 15 ∨ 21 < q) → M' q = M q
theorem Fdr.rf {M : MT} : Fdr M M := fun _ _ _ => rfl
theorem Fdr.tr {M M1 M2 : MT} (h1 : Fdr M M1) (h2 : Fdr M1 M2) : Fdr M M2 := fun q a b => (h2 q a b).trans (h1 q a b)
theorem Fdr.sw {M M' : MT} {p k : Nat} {v : Int32} (h : Fdr M M') (h1 : p = 6 ∨ 15 ≤ p) (h2 : p ≤ 21) : Fdr M (wr M' p k v) := fun q a b => by rw [wr_off (by omega)]; exact h q a b
theorem Fm.fd {M M' : MT} (h : Fm M M' 6 6) : Fdr M M' := fun q a _ => h q (by omega)
def Fl (M M' : MT) : Prop := ∀ q, q ≠ 6 → q ≠ 15 → M' q = M q
theorem Fl.rf {M : MT} : Fl M M := fun _ _ _ => rfl
theorem Fl.tr {M M1 M2 : MT} (h1 : Fl M M1) (h2 : Fl M1 M2) : Fl M M2 := fun q a b => (h2 q a b).trans (h1 q a b)
theorem Fl.sw {M M' : MT} {p k : Nat} {v : Int32} (h : Fl M M') (h1 : p = 6 ∨ p = 15) (h2 : p ≤ 21) : Fl M (wr M' p k v) := fun q a b => by rw [wr_off (by omega)]; exact h q a b
theorem Fm.fl {M M' : MT} (h : Fm M M' 6 6) : Fl M M' := fun q a _ => h q (by omega)
theorem Fl.fd {M M' : MT} (h : Fl M M') : Fdr M M' := fun q a _ => h q a (by omega)
