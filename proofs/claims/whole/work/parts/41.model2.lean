/-! THE REFERENCE: what is played aside -/
def Wk (b : BV) (st : Int32) (M : MT) : Prop := (∀ k, k < 6 → M 62 k = b k) ∧ (∀ i, i < 12 → M 62 (9 + i) = b (9 + i)) ∧ M 61 21 = b 6 ∧ M 61 22 = st ∧ (∀ p, p < 5 → M 71 p = b (21 + p) ∧ M 72 p = b (31 + p) ∧ M 69 p = b (26 + p)) ∧ (∀ e, e < 25 → M 73 e = b (36 + e))
/-- what is played aside changes these alone -/
def Fs (M M' : MT) : Prop := (∀ q, q ≠ 61 → (q < 69 ∨ 74 < q) → M' q = M q) ∧ (∀ k, k ≠ 21 → k ≠ 22 → M' 61 k = M 61 k)
theorem Fs.rf {M : MT} : Fs M M := ⟨fun _ _ _ => rfl, fun _ _ _ => rfl⟩
theorem Fs.tr {M M1 M2 : MT} (h1 : Fs M M1) (h2 : Fs M1 M2) : Fs M M2 := ⟨fun q a b => (h2.1 q a b).trans (h1.1 q a b), fun k a b => (h2.2 k a b).trans (h1.2 k a b)⟩
theorem Fs.sw {M M' : MT} {p k : Nat} {v : Int32} (h : Fs M M') (h1 : 69 ≤ p) (h2 : p ≤ 74) : Fs M (wr M' p k v) := ⟨fun q a b => by rw [wr_off (by omega)]; exact h.1 q a b, fun j a b => by rw [wr_off (by omega)]; exact h.2 j a b⟩
theorem Fs.w1 {M M' : MT} {k : Nat} {v : Int32} (h : Fs M M') (hk : k = 21 ∨ k = 22) : Fs M (wr M' 61 k v) := ⟨fun q a b => by rw [wr_off a]; exact h.1 q a b, fun j a b => by rw [wr_ne (by omega)]; exact h.2 j a b⟩
theorem Fs.fm {M M' : MT} (h : Fs M M') : Fm M M' 61 75 := fun q hq => h.1 q (by omega) (by omega)
theorem AM.scr {σ M M' : MT} (h : AM σ M) (f : Fs M M') : AM σ M' := by
  obtain ⟨⟨h1, h2⟩, ⟨h3, h3'⟩, ⟨h4, h5⟩, ⟨h6, h7⟩, h8, ⟨h9, h10⟩, h11⟩ := h
  refine ⟨⟨fun i hi => ?_, fun i hi => ?_⟩, ⟨?_, ?_⟩, ⟨?_, fun i hi => ?_⟩, ⟨?_, fun i k hi hk => ?_⟩, fun k hk => ?_, ⟨?_, fun i hi => ?_⟩, ?_⟩
  · rw [f.1 64 (by omega) (by omega), f.1 65 (by omega) (by omega)]; exact h1 i hi
  · rw [f.1 66 (by omega) (by omega)]; exact h2 i hi
  · rw [f.2 7 (by omega) (by omega)]; exact h3
  · rw [f.2 10 (by omega) (by omega)]; exact h3'
  · rw [f.2 9 (by omega) (by omega)]; exact h4
  · rw [f.1 68 (by omega) (by omega)]; exact h5 i hi
  · rw [f.2 1 (by omega) (by omega)]; exact h6
  · rw [f.1 62 (by omega) (by omega)]; exact h7 i k hi hk
  · rw [f.1 62 (by omega) (by omega)]; exact h8 k hk
  · rw [f.2 25 (by omega) (by omega)]; exact h9
  · rw [f.1 75 (by omega) (by omega)]; exact h10 i hi
  · rw [f.1 63 (by omega) (by omega)]; exact h11
theorem m_layNow {C : CC} (hC : Clo C) {d : Nat} {M : MT} {K : KT} {b : BV} (hb : ∀ k, k < 61 → M 62 k = b k) (hK : ∀ M', Wk b (-1) M' → Fs M M' → K none M') : C d 148 [.ref 61] M K := by
  refine g_X8_layNow hC (fun X hX => ?_)
  have loop2 : ∀ (n e : Nat) (M' : MT), e + n = 25 → Fs M M' → (∀ p, p < 5 → M' 71 p = b (21 + p) ∧ M' 72 p = b (31 + p) ∧ M' 69 p = b (26 + p)) → (∀ j, j < e → M' 73 j = b (36 + j)) → X 60 [some (.ref 61), some (.int (nI e))] [] M' := by
    intro n
    induction n with
    | zero =>
      intro e M' he f h1 h2
      have he : e = 25 := by omega
      subst he
      have e62 := f.1 62 (by omega) (by omega)
      refine b_X8_layNow_60 hX ?_
      conv => whnf
      refine ⟨fun q => ?_, fun q => absurd (by decide) q⟩
      refine b_X8_layNow_87 hX ?_
      conv => whnf
      refine ⟨6, rfl, by decide, ?_⟩
      conv => whnf
      refine hK _ ⟨fun k hk => ?_, fun i hi => ?_, ?_, wr_at, fun p hp => ?_, fun j hj => ?_⟩ (Fs.w1 (Fs.w1 f (Or.inl rfl)) (Or.inr rfl))
      · rw [wr_off (by decide), wr_off (by decide), e62]; exact hb k (by omega)
      · rw [wr_off (by decide), wr_off (by decide), e62]; exact hb _ (by omega)
      · rw [wr_ne (by decide), wr_at, e62]; exact hb 6 (by omega)
      · rw [wr_off (by decide), wr_off (by decide), wr_off (by decide), wr_off (by decide), wr_off (by decide), wr_off (by decide)]; exact h1 p hp
      · rw [wr_off (by decide), wr_off (by decide)]; exact h2 j hj
    | succ n ih =>
      intro e M' he f h1 h2
      have e62 := f.1 62 (by omega) (by omega)
      refine b_X8_layNow_60 hX ?_
      conv => whnf
      refine ⟨fun q => absurd ((le_nI (a := 25) (by omega) (by omega)).mp q) (by omega), fun q => ?_⟩
      conv => whnf
      refine ⟨36 + e, (by simp only [lit_nI, nI_add, nI_mul]), by omega, ?_⟩
      conv => whnf
      refine ⟨e, rfl, by omega, ?_⟩
      conv => whnf
      rw [nI_1, e62, hb _ (by omega)]
      refine ih (e + 1) _ (by omega) (Fs.sw f (by decide) (by decide)) (fun p hp => ?_) (fun j hj => ?_)
      · rw [wr_off (by decide), wr_off (by decide), wr_off (by decide)]; exact h1 p hp
      · by_cases z : j = e
        · subst z; exact wr_at
        · rw [wr_ne z]; exact h2 j (by omega)
  have loop1 : ∀ (n p : Nat) (M' : MT), p + n = 5 → Fs M M' → (∀ j, j < p → M' 71 j = b (21 + j) ∧ M' 72 j = b (31 + j) ∧ M' 69 j = b (26 + j)) → X 2 [some (.ref 61), some (.int (nI p))] [] M' := by
    intro n
    induction n with
    | zero =>
      intro p M' hp f h1
      have hp : p = 5 := by omega
      subst hp
      refine b_X8_layNow_2 hX ?_
      conv => whnf
      refine ⟨fun q => ?_, fun q => absurd (by decide) q⟩
      refine b_X8_layNow_58 hX ?_
      conv => whnf
      exact loop2 25 0 M' (by omega) f h1 (fun j hj => absurd hj (by omega))
    | succ n ih =>
      intro p M' hp f h1
      have e62 := f.1 62 (by omega) (by omega)
      refine b_X8_layNow_2 hX ?_
      conv => whnf
      refine ⟨fun q => absurd ((le_nI (a := 5) (by omega) (by omega)).mp q) (by omega), fun q => ?_⟩
      conv => whnf
      refine ⟨26 + p, (by simp only [lit_nI, nI_add, nI_mul]), by omega, ?_⟩
      conv => whnf
      refine ⟨p, rfl, by omega, ?_⟩
      conv => whnf
      refine ⟨21 + p, (by simp only [lit_nI, nI_add, nI_mul]), by omega, ?_⟩
      conv => whnf
      refine ⟨p, rfl, by omega, ?_⟩
      conv => whnf
      refine ⟨31 + p, (by simp only [lit_nI, nI_add, nI_mul]), by omega, ?_⟩
      conv => whnf
      refine ⟨p, rfl, by omega, ?_⟩
      conv => whnf
      rw [nI_1]
      refine ih (p + 1) _ (by omega) (Fs.sw (Fs.sw (Fs.sw f (by decide) (by decide)) (by decide) (by decide)) (by decide) (by decide)) (fun j hj => ?_)
      rw [wr_off (q := 71) (p := 72) (by decide), wr_off (q := 69) (p := 72) (by decide), wr_off (q := 69) (p := 71) (by decide), wr_off (q := 62) (p := 71) (by decide), wr_off (q := 62) (p := 69) (by decide), e62]
      by_cases z : j = p
      · subst z; rw [wr_at, wr_at, wr_at, hb _ (by omega), hb _ (by omega), hb _ (by omega)]; exact ⟨rfl, rfl, rfl⟩
      · rw [wr_ne z, wr_ne z, wr_ne z, wr_off (q := 71) (p := 69) (by decide), wr_off (q := 72) (p := 71) (by decide), wr_off (q := 72) (p := 69) (by decide)]; exact h1 j (by omega)
  refine b_X8_layNow_0 hX ?_
  conv => whnf
  exact loop1 5 0 M (by omega) Fs.rf (fun j hj => absurd hj (by omega))
theorem mul_neg2 (x : Int32) : 2 * -x = -2 * x := by rw [Int32.mul_neg, Int32.neg_mul]
theorem m_leanAt {C : CC} (hC : Clo C) {d : Nat} {M : MT} {K : KT} {b : BV} {k : Nat} {bar : Int32} (hb : ∀ j, j < 6 → M 62 j = b j) (hk1 : 1 ≤ k) (hk5 : k ≤ 5) (hK : K (some (.int (leanS b (nI k) bar))) M) : C d 149 [.ref 61, .int (nI k), .int bar] M K := by
  refine g_X8_leanAt hC (fun X hX => ?_)
  refine b_X8_leanAt_0 hX ?_
  conv => whnf
  refine ⟨fun q => ?_, fun q => ?_⟩
  rotate_left
  · have h4 : ¬ k < 4 := fun z => q ((lt_nI (b := 4) (by omega) (by omega)).mpr z)
    have hk : k = 4 ∨ k = 5 := by omega
    rw [leanS_no (by rcases hk with rfl | rfl <;> decide)] at hK
    conv => whnf
    exact hK
  have h4 : k < 4 := (lt_nI (b := 4) (by omega) (by omega)).mp q
  have hk : nI k = 1 ∨ nI k = 2 ∨ nI k = 3 := by
    have : k = 1 ∨ k = 2 ∨ k = 3 := by omega
    rcases this with rfl | rfl | rfl
    · exact Or.inl rfl
    · exact Or.inr (Or.inl rfl)
    · exact Or.inr (Or.inr rfl)
  unfold leanS at hK
  rw [if_pos hk, ← hb 0 (by omega), ← hb 1 (by omega), ← hb 2 (by omega)] at hK
  generalize nI k = s at hK hk ⊢
  have ret : ∀ v, K (some (.int v)) M → X 79 [some (.ref 61), some (.int s), some (.int bar), some (.int v)] [.int v] M := fun v h => by
    refine b_X8_leanAt_79 hX ?_
    conv => whnf
    exact h
  have tw : ∀ v, K (some (.int (2 * v))) M → X 72 [some (.ref 61), some (.int s), some (.int bar), some (.int v)] [] M := fun v h => by
    refine b_X8_leanAt_72 hX ?_
    conv => whnf
    exact h
  have pl : ∀ v, K (some (.int v)) M → X 78 [some (.ref 61), some (.int s), some (.int bar), some (.int v)] [] M := fun v h => by
    refine b_X8_leanAt_78 hX ?_
    conv => whnf
    exact ret v h
  have go : ∀ v, (((s = 2 ∧ bar = 1) ∨ (s = 3 ∧ bar = 2)) → K (some (.int (2 * v))) M) → (¬ ((s = 2 ∧ bar = 1) ∨ (s = 3 ∧ bar = 2)) → K (some (.int v)) M) → X 51 [some (.ref 61), some (.int s), some (.int bar), none] [.int v] M := fun v h1 h0 => by
    have b62 : ¬ (s = 2 ∧ bar = 1) → X 62 [some (.ref 61), some (.int s), some (.int bar), some (.int v)] [] M := fun n1 => by
      refine b_X8_leanAt_62 hX ?_
      conv => whnf
      refine ⟨fun z => pl v (h0 (by rintro (w | w); exact n1 w; exact z w.1)), fun z => ?_⟩
      conv => whnf
      refine ⟨fun z2 => pl v (h0 (by rintro (w | w); exact n1 w; exact z2 w.2)), fun z2 => ?_⟩
      conv => whnf
      exact tw v (h1 (Or.inr ⟨z, z2⟩))
    refine b_X8_leanAt_51 hX ?_
    conv => whnf
    refine ⟨fun z => b62 (fun w => z w.1), fun z => ?_⟩
    conv => whnf
    refine ⟨fun z2 => tw v (h1 (Or.inl ⟨z, z2⟩)), fun z2 => ?_⟩
    exact b62 (fun w => z2 w.2)
  refine b_X8_leanAt_7 hX ?_
  conv => whnf
  refine ⟨fun n1 => ?_, fun e1 => ?_⟩
  · rw [if_neg n1] at hK
    refine b_X8_leanAt_21 hX ?_
    conv => whnf
    refine ⟨fun n2 => ?_, fun e2 => ?_⟩
    · rw [if_neg n2] at hK
      refine b_X8_leanAt_36 hX ?_
      conv => whnf
      refine ⟨fun n3 => ?_, fun e3 => ?_⟩
      · rw [if_neg n3] at hK
        refine b_X8_leanAt_50 hX ?_
        conv => whnf
        exact go 0 (by rintro (w | w); exact absurd w.2 n1; exact absurd w.2 n2) (fun _ => hK)
      · rw [if_pos e3] at hK
        conv => whnf
        refine ⟨2, rfl, by decide, ?_⟩
        conv => whnf
        exact go _ (by rintro (w | w); exact absurd w.2 n1; exact absurd w.2 n2) (fun _ => hK)
    · rw [if_pos e2] at hK
      conv => whnf
      refine ⟨1, rfl, by decide, ?_⟩
      conv => whnf
      refine go _ (fun w => ?_) (fun w => ?_)
      · have : s = 3 := by
          rcases w with w | w
          · exact absurd w.2 n1
          · exact w.1
        rw [if_pos this] at hK
        rw [mul_neg2]
        exact hK
      · rw [if_neg (fun z => w (Or.inr ⟨z, e2⟩))] at hK
        exact hK
  · rw [if_pos e1] at hK
    conv => whnf
    refine ⟨0, rfl, by decide, ?_⟩
    conv => whnf
    refine go _ (fun w => ?_) (fun w => ?_)
    · have : s = 2 := by
        rcases w with w | w
        · exact w.1
        · rw [e1] at w; exact absurd w.2 (by decide)
      rw [if_pos this] at hK
      exact hK
    · rw [if_neg (fun z => w (Or.inl ⟨z, e1⟩))] at hK
      exact hK
def kindsOK (b : BV) : Prop := ∀ i, i < nP b → ∃ k, 1 ≤ k ∧ k ≤ 5 ∧ b (21 + i) = nI k
theorem m_paceBehind {C : CC} (hC : Clo C) {d : Nat} (hd : 2 ≤ d) {M : MT} {K : KT} {b : BV} {st bar : Int32} {p : Nat} (hw : Wk b st M) (hz : SZb b) (hk : kindsOK b) (hp : p < nP b) (hK : K (some (.int (paceS b st p bar))) M) : C d 150 [.ref 61, .int (nI p), .int bar] M K := by
  obtain ⟨w1, w2, w3, w4, w5, w6⟩ := hw
  obtain ⟨z1, z2, z3, z4, z5, z6, z7⟩ := hz
  have e5 : M 62 5 = nI (nP b) := (w1 5 (by omega)).trans z1
  obtain ⟨c1, c2, c3⟩ := w5 p (by omega)
  obtain ⟨kk, k1, k2, k3⟩ := hk p hp
  refine g_X8_paceBehind hC (fun X hX => ?_)
  have b155 : ∀ (v h x5 : Int32), (K (some (.int (boundS (v + h)))) M) → X 155 [some (.ref 61), some (.int (nI p)), some (.int bar), some (.int (pullS b p (nP b))), some (.int v), some (.int x5)] [.int h, .int v] M := fun v h x5 hh => by
    refine b_X8_paceBehind_155 hX ?_
    conv => whnf
    refine ⟨by omega, m_bound hC ?_⟩
    conv => whnf
    exact hh
  have b101 : X 101 [some (.ref 61), some (.int (nI p)), some (.int bar), some (.int (pullS b p (nP b))), some (.int (nI (nP b))), none] [.int (if nI p = st then 0 else leanS b (b (21 + p)) bar), .int (b (26 + p) + pullS b p (nP b) / 10 + (if bar = 4 then 0 else b (31 + p)))] M := by
    refine b_X8_paceBehind_101 hX ?_
    conv => whnf
    refine ⟨3, rfl, by decide, ?_⟩
    conv => whnf
    refine ⟨by decide, ?_⟩
    conv => whnf
    refine ⟨p, rfl, by omega, ?_⟩
    conv => whnf
    rw [w1 3 (by omega), c1]
    have hK : K (some (.int (boundS (rawS b st p bar + nearS b (b (21 + p)) (rawS b st p bar))))) M := hK
    unfold nearS at hK
    refine ⟨fun q => ?_, fun q => ?_⟩
    · rw [if_neg q] at hK
      refine b_X8_paceBehind_137 hX ?_
      conv => whnf
      refine ⟨p, rfl, by omega, ?_⟩
      conv => whnf
      rw [c1]
      refine ⟨fun q2 => ?_, fun q2 => ?_⟩
      · rw [if_neg q2] at hK
        refine b_X8_paceBehind_154 hX ?_
        conv => whnf
        exact b155 _ _ _ hK
      · rw [if_pos q2] at hK
        conv => whnf
        refine ⟨by decide, ?_⟩
        conv => whnf
        exact b155 _ _ _ hK
    · rw [if_pos q] at hK
      conv => whnf
      exact b155 _ _ _ hK
  have b77 : X 77 [some (.ref 61), some (.int (nI p)), some (.int bar), some (.int (pullS b p (nP b))), some (.int (nI (nP b))), none] [.int (if bar = 4 then 0 else b (31 + p)), .int (b (26 + p) + pullS b p (nP b) / 10)] M := by
    refine b_X8_paceBehind_77 hX ?_
    conv => whnf
    rw [w4]
    refine ⟨fun q => ?_, fun q => ?_⟩
    · refine b_X8_paceBehind_90 hX ?_
      conv => whnf
      refine ⟨p, rfl, by omega, ?_⟩
      conv => whnf
      rw [c1, k3]
      refine ⟨by omega, m_leanAt hC w1 k1 k2 ?_⟩
      conv => whnf
      rw [if_neg q, k3] at b101
      exact b101
    · conv => whnf
      rw [if_pos q] at b101
      exact b101
  have loop : ∀ (n j : Nat), j + n = nP b → X 5 [some (.ref 61), some (.int (nI p)), some (.int bar), some (.int (pullS b p j)), some (.int (nI j)), none] [] M := by
    intro n
    induction n with
    | zero =>
      intro j hj
      rw [Nat.add_zero] at hj
      subst hj
      refine b_X8_paceBehind_5 hX ?_
      conv => whnf
      refine ⟨5, rfl, by decide, ?_⟩
      conv => whnf
      rw [e5]
      refine ⟨fun q => ?_, fun q => absurd (nI_le (by omega) (by omega)) q⟩
      refine b_X8_paceBehind_51 hX ?_
      conv => whnf
      refine ⟨p, rfl, by omega, ?_⟩
      conv => whnf
      refine ⟨by decide, ?_⟩
      conv => whnf
      rw [c3]
      refine ⟨fun q => ?_, fun q => ?_⟩
      · refine b_X8_paceBehind_71 hX ?_
        conv => whnf
        refine ⟨p, rfl, by omega, ?_⟩
        conv => whnf
        rw [if_neg q] at b77
        rw [c2]
        exact b77
      · conv => whnf
        rw [if_pos q] at b77
        exact b77
    | succ n ih =>
      intro j hj
      refine b_X8_paceBehind_5 hX ?_
      conv => whnf
      refine ⟨5, rfl, by decide, ?_⟩
      conv => whnf
      rw [e5]
      refine ⟨fun q => absurd q (nI_ge (by omega) (by omega)), fun q => ?_⟩
      conv => whnf
      refine ⟨5 * p + j, (by simp only [lit_nI, nI_add, nI_mul]), by omega, ?_⟩
      conv => whnf
      refine ⟨j, rfl, by omega, ?_⟩
      conv => whnf
      refine ⟨p, rfl, by omega, ?_⟩
      conv => whnf
      rw [w6 (5 * p + j) (by omega), (w5 j (by omega)).2.2, c3, nI_1]
      exact ih (j + 1) (by omega)
  refine b_X8_paceBehind_0 hX ?_
  conv => whnf
  exact loop (nP b) 0 (by omega)
theorem next_S {x N : Nat} (hx : x < N) (hN : N ≤ 12) : rem32 (nI x + 1) (nI N) = if x + 1 < N then nI (x + 1) else 0 := by
  rw [nI_1]
  have e : rem32 (nI (x + 1)) (nI N) = nI ((x + 1) % N) := pk_rem (by omega) (by omega) (by omega)
  rw [e]
  by_cases h : x + 1 < N
  · rw [if_pos h, Nat.mod_eq_of_lt h]
  · have : x + 1 = N := by omega
    rw [if_neg h, this, Nat.mod_self]; rfl
theorem kindsOK.play {st : Int32} {b : BV} (h5 : nP b ≤ 5) (h : kindsOK b) : kindsOK (playS st b) := fun i hi => by
  rw [nP_playS] at hi
  rw [playS_lo (by omega) (by omega) (by omega)]
  exact h i hi
theorem m_playsG {C : CC} (hC : Clo C) {d : Nat} (hd : 3 ≤ d) {M : MT} {K : KT} {b : BV} {st : Int32} (hw : Wk b st M) (hz : SZb b) (hk : kindsOK b) (hK : ∀ M', Wk (playS st b) st M' → Fs M M' → M' 74 = M 74 → K none M') : C d 151 [.ref 61] M K := by
  have hw0 := hw
  obtain ⟨w1, w2, w3, w4, w5, w6⟩ := hw
  have hz0 := hz
  obtain ⟨z1, z2, z3, z4, z5, z6, z7⟩ := hz
  have e5 : M 62 5 = nI (nP b) := (w1 5 (by omega)).trans z1
  have e4 : M 62 4 = nI (nB b) := (w1 4 (by omega)).trans z4
  have e6 : M 61 21 = nI (nX b) := w3.trans z6
  refine g_X8_plays hC (fun X hX => ?_)
  have loop2 : ∀ (n p : Nat) (M' : MT), p + n = nP b → (∀ q, q ≠ 69 → q ≠ 70 → M' q = M q) → (∀ i, i < nP b → M' 70 i = paceS b st i (barS b)) → (∀ i, i < 5 → M' 69 i = if i < p then paceS b st i (barS b) else b (26 + i)) → X 45 [some (.ref 61), some (.int (barS b)), some (.int (nI p))] [] M' := by
    intro n
    induction n with
    | zero =>
      intro p M' hp h1 h2 h3
      rw [Nat.add_zero] at hp
      subst hp
      have f62 := h1 62 (by decide) (by decide)
      have f61 := h1 61 (by decide) (by decide)
      refine b_X8_plays_45 hX ?_
      conv => whnf
      refine ⟨5, rfl, by decide, ?_⟩
      conv => whnf
      rw [f62, e5]
      refine ⟨fun q => ?_, fun q => absurd (nI_le (by omega) (by omega)) q⟩
      refine b_X8_plays_73 hX ?_
      conv => whnf
      refine ⟨4, rfl, by decide, ?_⟩
      conv => whnf
      rw [f62, e4, f61, e6]
      refine ⟨nI_ne0 (by omega) (by omega), ?_⟩
      conv => whnf
      rw [next_S z7 z5]
      refine hK _ ⟨fun k hk => ?_, fun i hi => ?_, ?_, ?_, fun p hp => ?_, fun e he => ?_⟩ ⟨fun q a b => ?_, fun k a b => ?_⟩ (by rw [wr_off (by decide), h1 74 (by decide) (by decide)])
      · rw [wr_off (by decide), f62, playS_lo (by omega) (by omega) (by omega)]; exact w1 k hk
      · rw [wr_off (by decide), f62, playS_lo (by omega) (by omega) (by omega)]; exact w2 i hi
      · rw [wr_at, playS_6]
      · rw [wr_ne (by decide), f61]; exact w4
      · rw [wr_off (by decide), wr_off (by decide), wr_off (by decide), h1 71 (by decide) (by decide), h1 72 (by decide) (by decide), playS_lo (by omega) (by omega) (by omega), playS_hi z3 (by omega), h3 p hp]
        refine ⟨(w5 p hp).1, (w5 p hp).2.1, ?_⟩
        by_cases e : p < nP b
        · rw [if_pos e, playS_pace e]
        · rw [if_neg e]
          unfold playS
          rw [if_neg (by omega), if_neg (by omega), if_neg (by omega)]
      · rw [wr_off (by decide), h1 73 (by decide) (by decide), playS_hi z3 (by omega)]; exact w6 e he
      · rw [wr_off a, h1 q (by omega) (by omega)]
      · rw [wr_ne a, f61]
    | succ n ih =>
      intro p M' hp h1 h2 h3
      have f62 := h1 62 (by decide) (by decide)
      refine b_X8_plays_45 hX ?_
      conv => whnf
      refine ⟨5, rfl, by decide, ?_⟩
      conv => whnf
      rw [f62, e5]
      refine ⟨fun q => absurd q (nI_ge (by omega) (by omega)), fun q => ?_⟩
      conv => whnf
      refine ⟨p, rfl, by omega, ?_⟩
      conv => whnf
      refine ⟨p, rfl, by omega, ?_⟩
      conv => whnf
      rw [nI_1, h2 p (by omega)]
      refine ih (p + 1) _ (by omega) (fun q a b => by rw [wr_off a]; exact h1 q a b) (fun i hi => by rw [wr_off (by decide)]; exact h2 i hi) (fun i hi => ?_)
      by_cases e : i = p
      · subst e; rw [wr_at, if_pos (by omega)]
      · rw [wr_ne e, h3 i hi]
        by_cases e2 : i < p
        · rw [if_pos e2, if_pos (by omega)]
        · rw [if_neg e2, if_neg (by omega)]
  have loop1 : ∀ (n p : Nat) (M' : MT), p + n = nP b → (∀ q, q ≠ 70 → M' q = M q) → (∀ i, i < p → M' 70 i = paceS b st i (barS b)) → X 15 [some (.ref 61), some (.int (barS b)), some (.int (nI p))] [] M' := by
    intro n
    induction n with
    | zero =>
      intro p M' hp h1 h2
      rw [Nat.add_zero] at hp
      subst hp
      refine b_X8_plays_15 hX ?_
      conv => whnf
      refine ⟨5, rfl, by decide, ?_⟩
      conv => whnf
      rw [h1 62 (by decide), e5]
      refine ⟨fun q => ?_, fun q => absurd (nI_le (by omega) (by omega)) q⟩
      refine b_X8_plays_43 hX ?_
      conv => whnf
      refine loop2 (nP b) 0 M' (by omega) (fun q _ z => h1 q z) h2 (fun i hi => ?_)
      rw [if_neg (by omega), h1 69 (by decide)]
      exact (w5 i hi).2.2
    | succ n ih =>
      intro p M' hp h1 h2
      have hw1 : Wk b st M' := by
        refine ⟨fun k hk => ?_, fun i hi => ?_, ?_, ?_, fun p hp => ?_, fun e he => ?_⟩
        · rw [h1 62 (by decide)]; exact w1 k hk
        · rw [h1 62 (by decide)]; exact w2 i hi
        · rw [h1 61 (by decide)]; exact w3
        · rw [h1 61 (by decide)]; exact w4
        · rw [h1 71 (by decide), h1 72 (by decide), h1 69 (by decide)]; exact w5 p hp
        · rw [h1 73 (by decide)]; exact w6 e he
      refine b_X8_plays_15 hX ?_
      conv => whnf
      refine ⟨5, rfl, by decide, ?_⟩
      conv => whnf
      rw [h1 62 (by decide), e5]
      refine ⟨fun q => absurd q (nI_ge (by omega) (by omega)), fun q => ?_⟩
      conv => whnf
      refine ⟨by omega, m_paceBehind hC (by omega) hw1 hz0 hk (by omega) ?_⟩
      conv => whnf
      refine ⟨p, rfl, by omega, ?_⟩
      conv => whnf
      rw [nI_1]
      refine ih (p + 1) _ (by omega) (fun q a => by rw [wr_off a]; exact h1 q a) (fun i hi => ?_)
      by_cases e : i = p
      · subst e; exact wr_at
      · rw [wr_ne e]; exact h2 i (by omega)
  refine b_X8_plays_0 hX ?_
  conv => whnf
  rw [e6]
  refine ⟨9 + nX b, (by simp only [lit_nI, nI_add, nI_mul]), by omega, ?_⟩
  conv => whnf
  rw [w2 (nX b) (by omega)]
  exact loop1 (nP b) 0 M (by omega) (fun _ _ => rfl) (fun i hi => absurd hi (by omega))
theorem m_plays {C : CC} (hC : Clo C) {d : Nat} (hd : 3 ≤ d) {M : MT} {K : KT} {b : BV} {st : Int32} (hw : Wk b st M) (hz : SZb b) (hk : kindsOK b) (hK : ∀ M', Wk (playS st b) st M' → Fs M M' → K none M') : C d 151 [.ref 61] M K := by
  exact m_playsG hC hd hw hz hk (fun M' a b _ => hK M' a b)
theorem m_mean {C : CC} (hC : Clo C) {d : Nat} {M : MT} {K : KT} {b : BV} {st : Int32} (hw : Wk b st M) (hz : SZb b) (hK : K (some (.int (meanS b))) M) : C d 152 [.ref 61] M K := by
  obtain ⟨w1, w2, w3, w4, w5, w6⟩ := hw
  obtain ⟨z1, z2, z3, z4, z5, z6, z7⟩ := hz
  have e5 : M 62 5 = nI (nP b) := (w1 5 (by omega)).trans z1
  unfold meanS at hK
  rw [if_neg (by omega)] at hK
  refine g_X8_mean hC (fun X hX => ?_)
  have loop : ∀ (n j : Nat), j + n = nP b → X 4 [some (.ref 61), some (.int (sumS b j)), some (.int (nI j))] [] M := by
    intro n
    induction n with
    | zero =>
      intro j hj
      rw [Nat.add_zero] at hj
      subst hj
      refine b_X8_mean_4 hX ?_
      conv => whnf
      refine ⟨5, rfl, by decide, ?_⟩
      conv => whnf
      rw [e5]
      refine ⟨fun q => ?_, fun q => absurd (nI_le (by omega) (by omega)) q⟩
      refine b_X8_mean_29 hX ?_
      conv => whnf
      refine ⟨5, rfl, by decide, ?_⟩
      conv => whnf
      rw [e5]
      refine ⟨fun q => ?_, fun q => absurd q (nI_ne0 z2 (by omega))⟩
      refine b_X8_mean_42 hX ?_
      conv => whnf
      refine ⟨5, rfl, by decide, ?_⟩
      conv => whnf
      rw [e5]
      refine ⟨nI_ne0 z2 (by omega), ?_⟩
      conv => whnf
      refine b_X8_mean_50 hX ?_
      conv => whnf
      rw [← z1]
      exact hK
    | succ n ih =>
      intro j hj
      refine b_X8_mean_4 hX ?_
      conv => whnf
      refine ⟨5, rfl, by decide, ?_⟩
      conv => whnf
      rw [e5]
      refine ⟨fun q => absurd q (nI_ge (by omega) (by omega)), fun q => ?_⟩
      conv => whnf
      refine ⟨j, rfl, by omega, ?_⟩
      conv => whnf
      rw [(w5 j (by omega)).2.2, nI_1]
      exact ih (j + 1) (by omega)
  refine b_X8_mean_0 hX ?_
  conv => whnf
  exact loop (nP b) 0 (by omega)
theorem m_meanNow {C : CC} (hC : Clo C) {d : Nat} {M : MT} {K : KT} {b : BV} (hb : ∀ k, k < 61 → M 62 k = b k) (hz : b 5 = nI (nP b)) (h5 : nP b ≤ 5) (hK : K (some (.int (meanS b))) M) : C d 154 [.ref 61] M K := by
  have e5 : M 62 5 = nI (nP b) := (hb 5 (by omega)).trans hz
  unfold meanS at hK
  refine g_X8_meanNow hC (fun X hX => ?_)
  have loop : ∀ (n j : Nat), j + n = nP b → X 4 [some (.ref 61), some (.int (sumS b j)), some (.int (nI j))] [] M := by
    intro n
    induction n with
    | zero =>
      intro j hj
      rw [Nat.add_zero] at hj
      subst hj
      refine b_X8_meanNow_4 hX ?_
      conv => whnf
      refine ⟨5, rfl, by decide, ?_⟩
      conv => whnf
      rw [e5]
      refine ⟨fun q => ?_, fun q => absurd (nI_le (by omega) (by omega)) q⟩
      refine b_X8_meanNow_32 hX ?_
      conv => whnf
      refine ⟨5, rfl, by decide, ?_⟩
      conv => whnf
      rw [e5]
      refine ⟨fun q => ?_, fun q => ?_⟩
      · have h0 : ¬ nP b = 0 := fun z => q (by rw [z]; rfl)
        rw [if_neg h0] at hK
        refine b_X8_meanNow_45 hX ?_
        conv => whnf
        refine ⟨5, rfl, by decide, ?_⟩
        conv => whnf
        rw [e5]
        refine ⟨q, ?_⟩
        conv => whnf
        refine b_X8_meanNow_53 hX ?_
        conv => whnf
        rw [← hz]
        exact hK
      · have h0 : nP b = 0 := by
          rcases Nat.eq_zero_or_pos (nP b) with z | z
          · exact z
          · exact absurd q (nI_ne0 z (by omega))
        rw [if_pos h0] at hK
        conv => whnf
        exact hK
    | succ n ih =>
      intro j hj
      refine b_X8_meanNow_4 hX ?_
      conv => whnf
      refine ⟨5, rfl, by decide, ?_⟩
      conv => whnf
      rw [e5]
      refine ⟨fun q => absurd q (nI_ge (by omega) (by omega)), fun q => ?_⟩
      conv => whnf
      refine ⟨26 + j, (by simp only [lit_nI, nI_add, nI_mul]), by omega, ?_⟩
      conv => whnf
      rw [hb (26 + j) (by omega), nI_1]
      exact ih (j + 1) (by omega)
  refine b_X8_meanNow_0 hX ?_
  conv => whnf
  exact loop (nP b) 0 (by omega)
theorem kindsOK.plays {st : Int32} : ∀ {n : Nat} {b : BV}, SZb b → kindsOK b → kindsOK (playsS st n b) := by
  intro n
  induction n with
  | zero => intro b _ h; exact h
  | succ n ih => intro b hz h; exact ih hz.play (h.play hz.2.2.1)
theorem m_playsMany {C : CC} (hC : Clo C) {d : Nat} (hd : 4 ≤ d) {M : MT} {K : KT} {b : BV} {st : Int32} {n : Nat} (hn : n ≤ 200) (hw : Wk b st M) (hz : SZb b) (hk : kindsOK b) (hK : ∀ M', Wk (playsS st n b) st M' → Fs M M' → K none M') : C d 153 [.ref 61, .int (nI n)] M K := by
  refine g_X8_playsMany hC (fun X hX => ?_)
  have loop : ∀ (m k : Nat) (M' : MT), k + m = n → Wk (playsS st k b) st M' → Fs M M' → X 2 [some (.ref 61), some (.int (nI n)), some (.int (nI k))] [] M' := by
    intro m
    induction m with
    | zero =>
      intro k M' hkn h1 h2
      rw [Nat.add_zero] at hkn
      subst hkn
      refine b_X8_playsMany_2 hX ?_
      conv => whnf
      refine ⟨fun q => ?_, fun q => absurd (nI_le (by omega) (by omega)) q⟩
      refine b_X8_playsMany_17 hX ?_
      conv => whnf
      exact hK M' h1 h2
    | succ m ih =>
      intro k M' hkn h1 h2
      refine b_X8_playsMany_2 hX ?_
      conv => whnf
      refine ⟨fun q => absurd q (nI_ge (by omega) (by omega)), fun q => ?_⟩
      conv => whnf
      refine ⟨by omega, m_plays hC (by omega) h1 hz.plays (hk.plays hz) (fun M1 h3 h4 => ?_)⟩
      conv => whnf
      rw [nI_1]
      rw [← playsS_succ] at h3
      exact ih (k + 1) M1 (by omega) h3 (h2.tr h4)
  refine b_X8_playsMany_0 hX ?_
  conv => whnf
  exact loop n 0 M (by omega) hw Fs.rf
theorem m_driftBy {C : CC} (hC : Clo C) {d : Nat} (hd : 5 ≤ d) {M : MT} {K : KT} {b : BV} {st : Int32} (hw : Wk b st M) (hz : SZb b) (hk : kindsOK b) (hK : ∀ M', Fs M M' → K (some (.int (driftS st b))) M') : C d 155 [.ref 61] M K := by
  have z12 := hz.2.2.2.2.1
  refine g_X8_driftBy hC (fun X hX => ?_)
  refine b_X8_driftBy_0 hX ?_
  conv => whnf
  refine ⟨by omega, m_mean hC hw hz ?_⟩
  conv => whnf
  refine ⟨4, rfl, by decide, ?_⟩
  conv => whnf
  rw [hw.1 4 (by omega), hz.2.2.2.1]
  refine ⟨by omega, m_playsMany hC (by omega) (by omega) hw hz hk (fun M1 h1 h2 => ?_)⟩
  conv => whnf
  refine ⟨by omega, m_mean hC h1 hz.plays ?_⟩
  conv => whnf
  exact hK M1 h2
