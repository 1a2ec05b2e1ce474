def canH (P : Nat) (x y : Int32) : Prop := (∃ i, i < P ∧ x = nI i) ∧ (∃ i, i < P ∧ y = nI i) ∧ ¬ x = y
def isPl (P : Nat) (x : Int32) : Prop := ∃ i, i < P ∧ x = nI i
theorem nI_of_lt {x : Int32} {P : Nat} (h0 : ¬ x < 0) (hP : P < 2147483648) (h : ¬ nI P ≤ x) : isPl P x := by
  obtain ⟨j, hj, rfl⟩ := nI_of h0
  refine ⟨j, ?_, rfl⟩
  rcases Nat.lt_or_ge j P with q | q
  · exact q
  · exact absurd (nI_le q (by omega)) h
theorem isPl_pos {x : Int32} {P : Nat} (hP : P < 2147483648) (h : isPl P x) : ¬ x < 0 ∧ ¬ nI P ≤ x := by
  obtain ⟨i, hi, rfl⟩ := h
  exact ⟨nI_pos (by omega), nI_ge hi (by omega)⟩
theorem c_stands_8 {C : CC} (hC : Clo C) {d : Nat} {M : MT} {K : KT} {P : Nat} (hp : M 8 0 = nI P) (hP : P ≤ 5) (h1 : 0 < P → K (some (.int 1)) M) (h0 : P = 0 → K (some (.int 0)) M) : C d 12 [.ref 8] M K := by
  refine g_X2_stands hC (fun X hX => ?_)
  refine b_X2_stands_0 hX ?_
  conv => whnf
  rw [hp]
  refine ⟨fun q => ?_, fun q => ?_⟩
  · refine b_X2_stands_11 hX ?_
    conv => whnf
    refine ⟨Or.inl rfl, h0 ?_⟩
    rcases Nat.eq_zero_or_pos P with z | z
    · exact z
    · exact absurd q (nI_nle z (by omega))
  · conv => whnf
    refine ⟨Or.inr rfl, h1 ?_⟩
    rcases Nat.eq_zero_or_pos P with z | z
    · exact absurd (by rw [z]; decide) q
    · exact z
theorem c_stands_47 {C : CC} (hC : Clo C) {d : Nat} {M : MT} {K : KT} {P : Nat} (hp : M 47 0 = nI P) (hP : P ≤ 5) (h1 : 0 < P → K (some (.int 1)) M) (h0 : P = 0 → K (some (.int 0)) M) : C d 12 [.ref 47] M K := by
  refine g_X2_stands hC (fun X hX => ?_)
  refine b_X2_stands_0 hX ?_
  conv => whnf
  rw [hp]
  refine ⟨fun q => ?_, fun q => ?_⟩
  · refine b_X2_stands_11 hX ?_
    conv => whnf
    refine ⟨Or.inl rfl, h0 ?_⟩
    rcases Nat.eq_zero_or_pos P with z | z
    · exact z
    · exact absurd q (nI_nle z (by omega))
  · conv => whnf
    refine ⟨Or.inr rfl, h1 ?_⟩
    rcases Nat.eq_zero_or_pos P with z | z
    · exact absurd (by rw [z]; decide) q
    · exact z
theorem c_stands_54 {C : CC} (hC : Clo C) {d : Nat} {M : MT} {K : KT} {P : Nat} (hp : M 54 0 = nI P) (hP : P ≤ 5) (h1 : 0 < P → K (some (.int 1)) M) (h0 : P = 0 → K (some (.int 0)) M) : C d 12 [.ref 54] M K := by
  refine g_X2_stands hC (fun X hX => ?_)
  refine b_X2_stands_0 hX ?_
  conv => whnf
  rw [hp]
  refine ⟨fun q => ?_, fun q => ?_⟩
  · refine b_X2_stands_11 hX ?_
    conv => whnf
    refine ⟨Or.inl rfl, h0 ?_⟩
    rcases Nat.eq_zero_or_pos P with z | z
    · exact z
    · exact absurd q (nI_nle z (by omega))
  · conv => whnf
    refine ⟨Or.inr rfl, h1 ?_⟩
    rcases Nat.eq_zero_or_pos P with z | z
    · exact absurd (by rw [z]; decide) q
    · exact z
theorem c_has_8 {C : CC} (hC : Clo C) {d : Nat} {M : MT} {K : KT} {P : Nat} {x : Int32} (hp : M 8 0 = nI P) (hP : P ≤ 5) (h1 : ∀ i, i < P → x = nI i → K (some (.int 1)) M) (h0 : ¬ isPl P x → K (some (.int 0)) M) : C d 13 [.ref 8, .int x] M K := by
  refine g_X2_has hC (fun X hX => ?_)
  have b16 : ¬ isPl P x → X 16 [some (.ref 8), some (.int x)] [] M := fun q => by
    refine b_X2_has_16 hX ?_
    conv => whnf
    exact ⟨Or.inl rfl, h0 q⟩
  refine b_X2_has_0 hX ?_
  conv => whnf
  refine ⟨fun q => b16 (fun z => (isPl_pos (by omega) z).1 q), fun q => ?_⟩
  conv => whnf
  rw [hp]
  refine ⟨fun q2 => b16 (fun z => (isPl_pos (by omega) z).2 q2), fun q2 => ?_⟩
  conv => whnf
  obtain ⟨i, hi, e⟩ := nI_of_lt q (by omega) q2
  exact ⟨Or.inr rfl, h1 i hi e⟩
theorem c_has_15 {C : CC} (hC : Clo C) {d : Nat} {M : MT} {K : KT} {P : Nat} {x : Int32} (hp : M 15 0 = nI P) (hP : P ≤ 5) (h1 : ∀ i, i < P → x = nI i → K (some (.int 1)) M) (h0 : ¬ isPl P x → K (some (.int 0)) M) : C d 13 [.ref 15, .int x] M K := by
  refine g_X2_has hC (fun X hX => ?_)
  have b16 : ¬ isPl P x → X 16 [some (.ref 15), some (.int x)] [] M := fun q => by
    refine b_X2_has_16 hX ?_
    conv => whnf
    exact ⟨Or.inl rfl, h0 q⟩
  refine b_X2_has_0 hX ?_
  conv => whnf
  refine ⟨fun q => b16 (fun z => (isPl_pos (by omega) z).1 q), fun q => ?_⟩
  conv => whnf
  rw [hp]
  refine ⟨fun q2 => b16 (fun z => (isPl_pos (by omega) z).2 q2), fun q2 => ?_⟩
  conv => whnf
  obtain ⟨i, hi, e⟩ := nI_of_lt q (by omega) q2
  exact ⟨Or.inr rfl, h1 i hi e⟩
theorem c_canHear_8 {C : CC} (hC : Clo C) {d : Nat} (hd : 1 ≤ d) {M : MT} {K : KT} {P : Nat} {x y : Int32} (hp : M 8 0 = nI P) (hP : P ≤ 5) (h1 : ∀ i j, i < P → j < P → ¬ i = j → x = nI i → y = nI j → K (some (.int 1)) M) (h0 : ¬ canH P x y → K (some (.int 0)) M) : C d 14 [.ref 8, .int x, .int y] M K := by
  refine g_X2_canHear hC (fun X hX => ?_)
  have b25 : ¬ canH P x y → X 25 [some (.ref 8), some (.int x), some (.int y)] [] M := fun q => by
    refine b_X2_canHear_25 hX ?_
    conv => whnf
    exact ⟨Or.inl rfl, h0 q⟩
  refine b_X2_canHear_0 hX ?_
  conv => whnf
  refine ⟨by omega, c_has_8 hC hp hP (fun i hi ex => ?_) (fun q => ?_)⟩
  · conv => whnf
    refine ⟨fun q => absurd q (by decide), fun _ => ?_⟩
    conv => whnf
    refine ⟨by omega, c_has_8 hC hp hP (fun j hj ey => ?_) (fun q => ?_)⟩
    · conv => whnf
      refine ⟨fun q => absurd q (by decide), fun _ => ?_⟩
      conv => whnf
      refine ⟨fun q => b25 (fun z => z.2.2 q), fun q => ?_⟩
      conv => whnf
      refine ⟨Or.inr rfl, h1 i j hi hj (fun z => q ?_) ex ey⟩
      rw [ex, ey, z]
    · conv => whnf
      refine ⟨fun _ => b25 (fun z => q z.2.1), fun z => absurd rfl z⟩
  · conv => whnf
    refine ⟨fun _ => b25 (fun z => q z.1), fun z => absurd rfl z⟩
theorem c_canHear_15 {C : CC} (hC : Clo C) {d : Nat} (hd : 1 ≤ d) {M : MT} {K : KT} {P : Nat} {x y : Int32} (hp : M 15 0 = nI P) (hP : P ≤ 5) (h1 : ∀ i j, i < P → j < P → ¬ i = j → x = nI i → y = nI j → K (some (.int 1)) M) (h0 : ¬ canH P x y → K (some (.int 0)) M) : C d 14 [.ref 15, .int x, .int y] M K := by
  refine g_X2_canHear hC (fun X hX => ?_)
  have b25 : ¬ canH P x y → X 25 [some (.ref 15), some (.int x), some (.int y)] [] M := fun q => by
    refine b_X2_canHear_25 hX ?_
    conv => whnf
    exact ⟨Or.inl rfl, h0 q⟩
  refine b_X2_canHear_0 hX ?_
  conv => whnf
  refine ⟨by omega, c_has_15 hC hp hP (fun i hi ex => ?_) (fun q => ?_)⟩
  · conv => whnf
    refine ⟨fun q => absurd q (by decide), fun _ => ?_⟩
    conv => whnf
    refine ⟨by omega, c_has_15 hC hp hP (fun j hj ey => ?_) (fun q => ?_)⟩
    · conv => whnf
      refine ⟨fun q => absurd q (by decide), fun _ => ?_⟩
      conv => whnf
      refine ⟨fun q => b25 (fun z => z.2.2 q), fun q => ?_⟩
      conv => whnf
      refine ⟨Or.inr rfl, h1 i j hi hj (fun z => q ?_) ex ey⟩
      rw [ex, ey, z]
    · conv => whnf
      refine ⟨fun _ => b25 (fun z => q z.2.1), fun z => absurd rfl z⟩
  · conv => whnf
    refine ⟨fun _ => b25 (fun z => q z.1), fun z => absurd rfl z⟩
theorem c_weight_8 {C : CC} (hC : Clo C) {d : Nat} {M : MT} {K : KT} {i j : Nat} (hi : i < 5) (hj : j < 5) (hK : K (some (.int (M 13 (5 * i + j)))) M) : C d 15 [.ref 8, .int (nI i), .int (nI j)] M K := by
  refine g_X2_weight hC (fun X hX => ?_)
  refine b_X2_weight_0 hX ?_
  conv => whnf
  refine ⟨5 * i + j, (by simp only [lit_nI, nI_add, nI_mul]), by omega, ?_⟩
  conv => whnf
  exact hK
theorem c_weigh_8 {C : CC} (hC : Clo C) {d : Nat} {M : MT} {K : KT} {i j : Nat} {w : Int32} (hi : i < 5) (hj : j < 5) (hK : K none (wr M 13 (5 * i + j) w)) : C d 16 [.ref 8, .int (nI i), .int (nI j), .int w] M K := by
  refine g_X2_weigh hC (fun X hX => ?_)
  refine b_X2_weigh_0 hX ?_
  conv => whnf
  refine ⟨5 * i + j, (by simp only [lit_nI, nI_add, nI_mul]), by omega, ?_⟩
  conv => whnf
  exact hK
theorem c_weight_15 {C : CC} (hC : Clo C) {d : Nat} {M : MT} {K : KT} {i j : Nat} (hi : i < 5) (hj : j < 5) (hK : K (some (.int (M 20 (5 * i + j)))) M) : C d 15 [.ref 15, .int (nI i), .int (nI j)] M K := by
  refine g_X2_weight hC (fun X hX => ?_)
  refine b_X2_weight_0 hX ?_
  conv => whnf
  refine ⟨5 * i + j, (by simp only [lit_nI, nI_add, nI_mul]), by omega, ?_⟩
  conv => whnf
  exact hK
theorem c_weigh_15 {C : CC} (hC : Clo C) {d : Nat} {M : MT} {K : KT} {i j : Nat} {w : Int32} (hi : i < 5) (hj : j < 5) (hK : K none (wr M 20 (5 * i + j) w)) : C d 16 [.ref 15, .int (nI i), .int (nI j), .int w] M K := by
  refine g_X2_weigh hC (fun X hX => ?_)
  refine b_X2_weigh_0 hX ?_
  conv => whnf
  refine ⟨5 * i + j, (by simp only [lit_nI, nI_add, nI_mul]), by omega, ?_⟩
  conv => whnf
  exact hK
theorem c_weight_32 {C : CC} (hC : Clo C) {d : Nat} {M : MT} {K : KT} {i j : Nat} (hi : i < 5) (hj : j < 5) (hK : K (some (.int (M 37 (5 * i + j)))) M) : C d 15 [.ref 32, .int (nI i), .int (nI j)] M K := by
  refine g_X2_weight hC (fun X hX => ?_)
  refine b_X2_weight_0 hX ?_
  conv => whnf
  refine ⟨5 * i + j, (by simp only [lit_nI, nI_add, nI_mul]), by omega, ?_⟩
  conv => whnf
  exact hK
theorem c_weigh_32 {C : CC} (hC : Clo C) {d : Nat} {M : MT} {K : KT} {i j : Nat} {w : Int32} (hi : i < 5) (hj : j < 5) (hK : K none (wr M 37 (5 * i + j) w)) : C d 16 [.ref 32, .int (nI i), .int (nI j), .int w] M K := by
  refine g_X2_weigh hC (fun X hX => ?_)
  refine b_X2_weigh_0 hX ?_
  conv => whnf
  refine ⟨5 * i + j, (by simp only [lit_nI, nI_add, nI_mul]), by omega, ?_⟩
  conv => whnf
  exact hK
def cntS (f : Nat → Int32) : Nat → Int32
  | 0 => 0
  | n + 1 => if f n = 0 then cntS f n else cntS f n + 1
theorem c_heardBy {C : CC} (hC : Clo C) {d : Nat} (hd : 1 ≤ d) {M : MT} {K : KT} {P i : Nat} (hp : M 8 0 = nI P) (hP : P ≤ 5) (hi : i < 5) (hK : K (some (.int (cntS (fun j => M 13 (5 * i + j)) P))) M) : C d 17 [.ref 8, .int (nI i)] M K := by
  refine g_X2_heardBy hC (fun X hX => ?_)
  have loop : ∀ (n j : Nat), j + n = P → X 4 [some (.ref 8), some (.int (nI i)), some (.int (cntS (fun j => M 13 (5 * i + j)) j)), some (.int (nI j))] [] M := by
    intro n
    induction n with
    | zero =>
      intro j hj
      rw [Nat.add_zero] at hj
      subst hj
      refine b_X2_heardBy_4 hX ?_
      conv => whnf
      refine ⟨fun q => ?_, fun q => absurd ?_ q⟩
      · refine b_X2_heardBy_30 hX ?_
        conv => whnf
        exact hK
      · rw [hp]; exact nI_le (by omega) (by omega)
    | succ n ih =>
      intro j hj
      have b24 : ∀ s, s = cntS (fun j => M 13 (5 * i + j)) (j + 1) → X 24 [some (.ref 8), some (.int (nI i)), some (.int s), some (.int (nI j))] [] M := fun s hs => by
        refine b_X2_heardBy_24 hX ?_
        conv => whnf
        rw [nI_1, hs]
        exact ih (j + 1) (by omega)
      refine b_X2_heardBy_4 hX ?_
      conv => whnf
      refine ⟨fun q => absurd q (by rw [hp]; exact nI_ge (by omega) (by omega)), fun q => ?_⟩
      conv => whnf
      refine ⟨by omega, c_weight_8 hC hi (by omega) ?_⟩
      conv => whnf
      refine ⟨fun q => b24 _ ?_, fun q => ?_⟩
      · show _ = if M 13 (5 * i + j) = 0 then _ else _
        rw [if_pos q]
      · conv => whnf
        have e : cntS (fun j => M 13 (5 * i + j)) (j + 1) = cntS (fun j => M 13 (5 * i + j)) j + 1 := if_neg q
        rw [nI_1, ← e]
        exact ih (j + 1) (by omega)
  refine b_X2_heardBy_0 hX ?_
  conv => whnf
  exact loop P 0 (by omega)
theorem c_barAt_8 {C : CC} (hC : Clo C) {d : Nat} {M : MT} {K : KT} {N k : Nat} (hn : M 8 1 = nI N) (hN : N ≤ 12) (hk : k < N) (hK : K (some (.int (M 14 k))) M) : C d 18 [.ref 8, .int (nI k)] M K := by
  refine g_X2_barAt hC (fun X hX => ?_)
  refine b_X2_barAt_0 hX ?_
  conv => whnf
  refine ⟨fun q => absurd q (nI_pos (by omega)), fun q => ?_⟩
  conv => whnf
  refine ⟨fun q => absurd q (by rw [hn]; exact nI_ge hk (by omega)), fun q => ?_⟩
  conv => whnf
  refine ⟨k, rfl, by omega, ?_⟩
  conv => whnf
  exact hK
theorem c_barAt0_8 {C : CC} (hC : Clo C) {d : Nat} {M : MT} {K : KT} {N k : Nat} (hn : M 8 1 = nI N) (hN : N ≤ 12) (hk : N ≤ k) (hk2 : k < 2147483648) (hK : K (some (.int 0)) M) : C d 18 [.ref 8, .int (nI k)] M K := by
  refine g_X2_barAt hC (fun X hX => ?_)
  refine b_X2_barAt_0 hX ?_
  conv => whnf
  refine ⟨fun q => absurd q (nI_pos (by omega)), fun q => ?_⟩
  conv => whnf
  refine ⟨fun q => ?_, fun q => absurd (by rw [hn]; exact nI_le hk (by omega)) q⟩
  refine b_X2_barAt_21 hX ?_
  conv => whnf
  exact hK
theorem c_barAt_25 {C : CC} (hC : Clo C) {d : Nat} {M : MT} {K : KT} {N k : Nat} (hn : M 25 1 = nI N) (hN : N ≤ 12) (hk : k < N) (hK : K (some (.int (M 31 k))) M) : C d 18 [.ref 25, .int (nI k)] M K := by
  refine g_X2_barAt hC (fun X hX => ?_)
  refine b_X2_barAt_0 hX ?_
  conv => whnf
  refine ⟨fun q => absurd q (nI_pos (by omega)), fun q => ?_⟩
  conv => whnf
  refine ⟨fun q => absurd q (by rw [hn]; exact nI_ge hk (by omega)), fun q => ?_⟩
  conv => whnf
  refine ⟨k, rfl, by omega, ?_⟩
  conv => whnf
  exact hK
theorem c_barAt0_25 {C : CC} (hC : Clo C) {d : Nat} {M : MT} {K : KT} {N k : Nat} (hn : M 25 1 = nI N) (hN : N ≤ 12) (hk : N ≤ k) (hk2 : k < 2147483648) (hK : K (some (.int 0)) M) : C d 18 [.ref 25, .int (nI k)] M K := by
  refine g_X2_barAt hC (fun X hX => ?_)
  refine b_X2_barAt_0 hX ?_
  conv => whnf
  refine ⟨fun q => absurd q (nI_pos (by omega)), fun q => ?_⟩
  conv => whnf
  refine ⟨fun q => ?_, fun q => absurd (by rw [hn]; exact nI_le hk (by omega)) q⟩
  refine b_X2_barAt_21 hX ?_
  conv => whnf
  exact hK
theorem c_together_8 {C : CC} (hC : Clo C) {d : Nat} {M : MT} {K : KT} {b : BV} (hb : Bd 8 b M) (hz : b 5 = nI (nP b)) (h5 : nP b ≤ 5) (hK : K (some (.int (meanS b))) M) : C d 19 [.ref 8] M K := by
  have p0 : M 8 0 = nI (nP b) := hb.1.1.trans hz
  unfold meanS at hK
  refine g_X2_together hC (fun X hX => ?_)
  have loop : 0 < nP b → ∀ (n j : Nat), j + n = nP b → X 13 [some (.ref 8), some (.int (sumS b j)), some (.int (nI j))] [] M := by
    intro h0 n
    induction n with
    | zero =>
      intro j hj
      rw [Nat.add_zero] at hj
      subst hj
      refine b_X2_together_13 hX ?_
      conv => whnf
      refine ⟨fun q => ?_, fun q => absurd ?_ q⟩
      · refine b_X2_together_36 hX ?_
        conv => whnf
        refine ⟨by rw [p0]; exact nI_ne0 h0 (by omega), ?_⟩
        conv => whnf
        rw [if_neg (by omega), ← hb.1.1] at hK
        exact hK
      · rw [p0]; exact nI_le (by omega) (by omega)
    | succ n ih =>
      intro j hj
      refine b_X2_together_13 hX ?_
      conv => whnf
      refine ⟨fun q => absurd q (by rw [p0]; exact nI_ge (by omega) (by omega)), fun q => ?_⟩
      conv => whnf
      refine ⟨j, rfl, by omega, ?_⟩
      conv => whnf
      rw [(hb.2.1 j (by omega)).2.2, nI_1]
      exact ih (j + 1) (by omega)
  refine b_X2_together_0 hX ?_
  conv => whnf
  rw [p0]
  refine ⟨fun q => ?_, fun q => ?_⟩
  · refine b_X2_together_9 hX ?_
    conv => whnf
    refine loop ?_ (nP b) 0 (by omega)
    rcases Nat.eq_zero_or_pos (nP b) with z | z
    · rw [z] at q; exact absurd q (by decide)
    · exact z
  · conv => whnf
    rw [if_pos ?_] at hK
    · exact hK
    · rcases Nat.eq_zero_or_pos (nP b) with z | z
      · exact z
      · exact absurd ((lt_nI (a := 0) (by omega) (by omega)).mpr z) q
theorem c_together_25 {C : CC} (hC : Clo C) {d : Nat} {M : MT} {K : KT} {b : BV} (hb : Bd 25 b M) (hz : b 5 = nI (nP b)) (h5 : nP b ≤ 5) (hK : K (some (.int (meanS b))) M) : C d 19 [.ref 25] M K := by
  have p0 : M 25 0 = nI (nP b) := hb.1.1.trans hz
  unfold meanS at hK
  refine g_X2_together hC (fun X hX => ?_)
  have loop : 0 < nP b → ∀ (n j : Nat), j + n = nP b → X 13 [some (.ref 25), some (.int (sumS b j)), some (.int (nI j))] [] M := by
    intro h0 n
    induction n with
    | zero =>
      intro j hj
      rw [Nat.add_zero] at hj
      subst hj
      refine b_X2_together_13 hX ?_
      conv => whnf
      refine ⟨fun q => ?_, fun q => absurd ?_ q⟩
      · refine b_X2_together_36 hX ?_
        conv => whnf
        refine ⟨by rw [p0]; exact nI_ne0 h0 (by omega), ?_⟩
        conv => whnf
        rw [if_neg (by omega), ← hb.1.1] at hK
        exact hK
      · rw [p0]; exact nI_le (by omega) (by omega)
    | succ n ih =>
      intro j hj
      refine b_X2_together_13 hX ?_
      conv => whnf
      refine ⟨fun q => absurd q (by rw [p0]; exact nI_ge (by omega) (by omega)), fun q => ?_⟩
      conv => whnf
      refine ⟨j, rfl, by omega, ?_⟩
      conv => whnf
      rw [(hb.2.1 j (by omega)).2.2, nI_1]
      exact ih (j + 1) (by omega)
  refine b_X2_together_0 hX ?_
  conv => whnf
  rw [p0]
  refine ⟨fun q => ?_, fun q => ?_⟩
  · refine b_X2_together_9 hX ?_
    conv => whnf
    refine loop ?_ (nP b) 0 (by omega)
    rcases Nat.eq_zero_or_pos (nP b) with z | z
    · rw [z] at q; exact absurd q (by decide)
    · exact z
  · conv => whnf
    rw [if_pos ?_] at hK
    · exact hK
    · rcases Nat.eq_zero_or_pos (nP b) with z | z
      · exact z
      · exact absurd ((lt_nI (a := 0) (by omega) (by omega)).mpr z) q
theorem c_together_32 {C : CC} (hC : Clo C) {d : Nat} {M : MT} {K : KT} {b : BV} (hb : Bd 32 b M) (hz : b 5 = nI (nP b)) (h5 : nP b ≤ 5) (hK : K (some (.int (meanS b))) M) : C d 19 [.ref 32] M K := by
  have p0 : M 32 0 = nI (nP b) := hb.1.1.trans hz
  unfold meanS at hK
  refine g_X2_together hC (fun X hX => ?_)
  have loop : 0 < nP b → ∀ (n j : Nat), j + n = nP b → X 13 [some (.ref 32), some (.int (sumS b j)), some (.int (nI j))] [] M := by
    intro h0 n
    induction n with
    | zero =>
      intro j hj
      rw [Nat.add_zero] at hj
      subst hj
      refine b_X2_together_13 hX ?_
      conv => whnf
      refine ⟨fun q => ?_, fun q => absurd ?_ q⟩
      · refine b_X2_together_36 hX ?_
        conv => whnf
        refine ⟨by rw [p0]; exact nI_ne0 h0 (by omega), ?_⟩
        conv => whnf
        rw [if_neg (by omega), ← hb.1.1] at hK
        exact hK
      · rw [p0]; exact nI_le (by omega) (by omega)
    | succ n ih =>
      intro j hj
      refine b_X2_together_13 hX ?_
      conv => whnf
      refine ⟨fun q => absurd q (by rw [p0]; exact nI_ge (by omega) (by omega)), fun q => ?_⟩
      conv => whnf
      refine ⟨j, rfl, by omega, ?_⟩
      conv => whnf
      rw [(hb.2.1 j (by omega)).2.2, nI_1]
      exact ih (j + 1) (by omega)
  refine b_X2_together_0 hX ?_
  conv => whnf
  rw [p0]
  refine ⟨fun q => ?_, fun q => ?_⟩
  · refine b_X2_together_9 hX ?_
    conv => whnf
    refine loop ?_ (nP b) 0 (by omega)
    rcases Nat.eq_zero_or_pos (nP b) with z | z
    · rw [z] at q; exact absurd q (by decide)
    · exact z
  · conv => whnf
    rw [if_pos ?_] at hK
    · exact hK
    · rcases Nat.eq_zero_or_pos (nP b) with z | z
      · exact z
      · exact absurd ((lt_nI (a := 0) (by omega) (by omega)).mpr z) q
theorem c_paceBehind_8 {C : CC} (hC : Clo C) {d : Nat} (hd : 1 ≤ d) {M : MT} {K : KT} {b : BV} {p : Nat} {bar : Int32} (hb : Bd 8 b M) (hz : SZb b) (hp : p < nP b) (hK : K (some (.int (paceS b (-1) p bar))) M) : C d 23 [.ref 8, .int (nI p), .int bar] M K := by
  have z3 := hz.2.2.1
  obtain ⟨e1, e2, e3⟩ := hb.2.1 p hp
  have ne : ¬ nI p = -1 := by
    intro h
    have := nI_pos (n := p) (by omega)
    rw [h] at this
    exact this (by decide)
  refine g_X2_paceBehind hC (fun X hX => ?_)
  have b15 : X 15 [some (.ref 8), some (.int (nI p)), some (.int bar), none, none] [.int (if bar = 4 then 0 else b (31 + p))] M := by
    refine b_X2_paceBehind_15 hX ?_
    conv => whnf
    refine ⟨p, rfl, by omega, ?_⟩
    conv => whnf
    refine ⟨by omega, c_pull_8 hC hb hz hp ?_⟩
    conv => whnf
    refine ⟨by decide, ?_⟩
    conv => whnf
    refine ⟨by omega, c_leanAt_8 hC hb z3 hp ?_⟩
    conv => whnf
    refine ⟨p, rfl, by omega, ?_⟩
    conv => whnf
    refine ⟨by omega, c_nearing_8 hC hb ?_⟩
    conv => whnf
    refine ⟨by omega, c_bounded hC ?_⟩
    conv => whnf
    rw [e1, e3]
    unfold paceS rawS at hK
    rw [if_neg ne] at hK
    exact hK
  refine b_X2_paceBehind_0 hX ?_
  conv => whnf
  refine ⟨fun q => ?_, fun q => ?_⟩
  · refine b_X2_paceBehind_9 hX ?_
    conv => whnf
    refine ⟨p, rfl, by omega, ?_⟩
    conv => whnf
    rw [if_neg q] at b15
    rw [e2]
    exact b15
  · conv => whnf
    rw [if_pos q] at b15
    exact b15
theorem c_paceBehind_25 {C : CC} (hC : Clo C) {d : Nat} (hd : 1 ≤ d) {M : MT} {K : KT} {b : BV} {p : Nat} {bar : Int32} (hb : Bd 25 b M) (hz : SZb b) (hp : p < nP b) (hK : K (some (.int (paceS b (-1) p bar))) M) : C d 23 [.ref 25, .int (nI p), .int bar] M K := by
  have z3 := hz.2.2.1
  obtain ⟨e1, e2, e3⟩ := hb.2.1 p hp
  have ne : ¬ nI p = -1 := by
    intro h
    have := nI_pos (n := p) (by omega)
    rw [h] at this
    exact this (by decide)
  refine g_X2_paceBehind hC (fun X hX => ?_)
  have b15 : X 15 [some (.ref 25), some (.int (nI p)), some (.int bar), none, none] [.int (if bar = 4 then 0 else b (31 + p))] M := by
    refine b_X2_paceBehind_15 hX ?_
    conv => whnf
    refine ⟨p, rfl, by omega, ?_⟩
    conv => whnf
    refine ⟨by omega, c_pull_25 hC hb hz hp ?_⟩
    conv => whnf
    refine ⟨by decide, ?_⟩
    conv => whnf
    refine ⟨by omega, c_leanAt_25 hC hb z3 hp ?_⟩
    conv => whnf
    refine ⟨p, rfl, by omega, ?_⟩
    conv => whnf
    refine ⟨by omega, c_nearing_25 hC hb ?_⟩
    conv => whnf
    refine ⟨by omega, c_bounded hC ?_⟩
    conv => whnf
    rw [e1, e3]
    unfold paceS rawS at hK
    rw [if_neg ne] at hK
    exact hK
  refine b_X2_paceBehind_0 hX ?_
  conv => whnf
  refine ⟨fun q => ?_, fun q => ?_⟩
  · refine b_X2_paceBehind_9 hX ?_
    conv => whnf
    refine ⟨p, rfl, by omega, ?_⟩
    conv => whnf
    rw [if_neg q] at b15
    rw [e2]
    exact b15
  · conv => whnf
    rw [if_pos q] at b15
    exact b15
