theorem c_within {C : CC} (hC : Clo C) {d : Nat} {v lo hi : Int32} {M : MT} {K : KT} (h1 : lo ≤ v → v ≤ hi → K (some (.int 1)) M) (h0 : ¬ (lo ≤ v ∧ v ≤ hi) → K (some (.int 0)) M) : C d 118 [.int v, .int lo, .int hi] M K := by
  refine g_X7_within hC (fun X hX => ?_)
  have b14 : ¬ (lo ≤ v ∧ v ≤ hi) → X 14 [some (.int v), some (.int lo), some (.int hi)] [] M := fun q => by
    refine b_X7_within_14 hX ?_
    conv => whnf
    exact ⟨Or.inl rfl, h0 q⟩
  refine b_X7_within_0 hX ?_
  conv => whnf
  refine ⟨fun q => b14 (fun z => Int32.not_le.mpr q z.1), fun q => ?_⟩
  conv => whnf
  refine ⟨fun q2 => b14 (fun z => Int32.not_le.mpr q2 z.2), fun q2 => ?_⟩
  conv => whnf
  exact ⟨Or.inr rfl, h1 (Int32.not_lt.mp q) (Int32.not_lt.mp q2)⟩
theorem c_bounded {C : CC} (hC : Clo C) {d : Nat} {v : Int32} {M : MT} {K : KT} (h : K (some (.int (boundS v))) M) : C d 119 [.int v] M K := by
  unfold boundS at h
  refine g_X7_bounded hC (fun X hX => ?_)
  refine b_X7_bounded_0 hX ?_
  conv => whnf
  refine ⟨fun q => ?_, fun q => ?_⟩
  · rw [if_neg (Int32.not_lt.mpr q)] at h
    refine b_X7_bounded_13 hX ?_
    conv => whnf
    refine ⟨fun q2 => ?_, fun q2 => ?_⟩
    · rw [if_neg (Int32.not_lt.mpr q2)] at h
      refine b_X7_bounded_26 hX ?_
      conv => whnf
      exact h
    · rw [if_pos (Int32.not_le.mp q2)] at h
      conv => whnf
      exact h
  · rw [if_pos (Int32.not_le.mp q)] at h
    conv => whnf
    exact h
theorem c_pull_8 {C : CC} (hC : Clo C) {d : Nat} {M : MT} {K : KT} {b : BV} {one : Nat} (hb : Bd 8 b M) (hz : SZb b) (h1 : one < nP b) (hK : K (some (.int (pullS b one (nP b)))) M) : C d 24 [.ref 8, .int (nI one)] M K := by
  obtain ⟨z1, z2, z3, z4, z5, z6, z7⟩ := hz
  have p0 : M 8 0 = nI (nP b) := hb.1.1.trans z1
  refine g_X2_pull hC (fun X hX => ?_)
  have loop : ∀ (n j : Nat), j + n = nP b → X 12 [some (.ref 8), some (.int (nI one)), some (.int (b (26 + one))), some (.int (pullS b one j)), some (.int (nI j))] [] M := by
    intro n
    induction n with
    | zero =>
      intro j hj
      refine b_X2_pull_12 hX ?_
      conv => whnf
      refine ⟨fun q => ?_, fun q => absurd ?_ q⟩
      · refine b_X2_pull_51 hX ?_
        conv => whnf
        rw [Nat.add_zero] at hj
        subst hj
        exact hK
      · rw [p0]; exact nI_le (by omega) (by omega)
    | succ n ih =>
      intro j hj
      refine b_X2_pull_12 hX ?_
      conv => whnf
      refine ⟨fun q => absurd q (by rw [p0]; exact nI_ge (by omega) (by omega)), fun q => ?_⟩
      conv => whnf
      refine ⟨5 * one + j, (by simp only [lit_nI, nI_add, nI_mul]), by omega, ?_⟩
      conv => whnf
      refine ⟨j, rfl, by omega, ?_⟩
      conv => whnf
      rw [hb.2.2.1 (5 * one + j) (by omega), (hb.2.1 j (by omega)).2.2, nI_1]
      exact ih (j + 1) (by omega)
  refine b_X2_pull_0 hX ?_
  conv => whnf
  refine ⟨one, rfl, by omega, ?_⟩
  conv => whnf
  rw [(hb.2.1 one h1).2.2]
  exact loop (nP b) 0 (by omega)
theorem c_nearing_8 {C : CC} (hC : Clo C) {d : Nat} {M : MT} {K : KT} {b : BV} {k v : Int32} (hb : Bd 8 b M) (hK : K (some (.int (nearS b k v))) M) : C d 25 [.ref 8, .int k, .int v] M K := by
  unfold nearS at hK
  have e : M 8 7 = b 3 := hb.1.2.2.2.2.2.2.2
  rw [← e] at hK
  refine g_X2_nearing hC (fun X hX => ?_)
  refine b_X2_nearing_0 hX ?_
  conv => whnf
  refine ⟨by decide, ?_⟩
  conv => whnf
  refine ⟨fun q => ?_, fun q => ?_⟩
  · rw [if_neg q] at hK
    refine b_X2_nearing_21 hX ?_
    conv => whnf
    refine ⟨fun q2 => ?_, fun q2 => ?_⟩
    · rw [if_neg q2] at hK
      refine b_X2_nearing_32 hX ?_
      conv => whnf
      exact hK
    · rw [if_pos q2] at hK
      conv => whnf
      refine ⟨by decide, ?_⟩
      conv => whnf
      exact hK
  · rw [if_pos q] at hK
    conv => whnf
    exact hK
theorem c_leanAt_8 {C : CC} (hC : Clo C) {d : Nat} {M : MT} {K : KT} {b : BV} {p : Nat} {bar : Int32} (hb : Bd 8 b M) (h5 : nP b ≤ 5) (hp : p < nP b) (hK : K (some (.int (leanS b (b (21 + p)) bar))) M) : C d 21 [.ref 8, .int (nI p), .int bar] M K := by
  have e0 : M 8 4 = b 0 := hb.1.2.2.2.2.1
  have e1 : M 8 5 = b 1 := hb.1.2.2.2.2.2.1
  have e2 : M 8 6 = b 2 := hb.1.2.2.2.2.2.2.1
  have e3 := (hb.2.1 p hp).1
  unfold leanS at hK
  rw [← e0, ← e1, ← e2, ← e3] at hK
  generalize hk : M 9 p = k at hK
  refine g_X2_leanAt hC (fun X hX => ?_)
  refine b_X2_leanAt_0 hX ?_
  conv => whnf
  refine ⟨p, rfl, by omega, ?_⟩
  have go : (k = 1 ∨ k = 2 ∨ k = 3) → X 24 [some (.ref 8), some (.int (nI p)), some (.int bar), some (.int k)] [] M := fun q => by
    rw [if_pos q] at hK
    refine b_X2_leanAt_24 hX ?_
    conv => whnf
    have t1 : (1 : Int32).toInt = 1 := by decide
    have t2 : (2 : Int32).toInt = 2 := by decide
    have t3 : (3 : Int32).toInt = 3 := by decide
    refine ⟨fun h => ?_, fun h => ?_, fun h => ?_, fun h => ?_, trivial⟩
    · have n1 : ¬ bar = 1 := fun z => by rw [z, t1] at h; omega
      have n2 : ¬ bar = 2 := fun z => by rw [z, t2] at h; omega
      have n3 : ¬ bar = 3 := fun z => by rw [z, t3] at h; omega
      rw [if_neg n1, if_neg n2, if_neg n3] at hK
      refine b_X2_leanAt_97 hX ?_
      conv => whnf
      exact hK
    · have n1 : bar = 1 := Int32.toInt_inj.mp (by rw [h, t1])
      rw [if_pos n1] at hK
      refine b_X2_leanAt_52 hX ?_
      conv => whnf
      refine ⟨fun z => ?_, fun z => ?_⟩
      · rw [if_neg z] at hK
        refine b_X2_leanAt_66 hX ?_
        conv => whnf
        exact hK
      · rw [if_pos z] at hK
        conv => whnf
        exact hK
    · have n1 : bar = 2 := Int32.toInt_inj.mp (by rw [h, t2]; rfl)
      subst n1
      rw [if_neg (by decide), if_pos rfl] at hK
      refine b_X2_leanAt_71 hX ?_
      conv => whnf
      refine ⟨fun z => ?_, fun z => ?_⟩
      · rw [if_neg z] at hK
        refine b_X2_leanAt_86 hX ?_
        conv => whnf
        exact hK
      · rw [if_pos z] at hK
        conv => whnf
        exact hK
    · have n1 : bar = 3 := Int32.toInt_inj.mp (by rw [h, t3]; rfl)
      subst n1
      rw [if_neg (by decide), if_neg (by decide), if_pos rfl] at hK
      refine b_X2_leanAt_92 hX ?_
      conv => whnf
      exact hK
  conv => whnf
  rw [hk]
  refine ⟨fun q => go (Or.inl q), fun q1 => ?_⟩
  conv => whnf
  refine ⟨fun q => go (Or.inr (Or.inl q)), fun q2 => ?_⟩
  conv => whnf
  refine ⟨fun q => go (Or.inr (Or.inr q)), fun q3 => ?_⟩
  conv => whnf
  rw [if_neg (by rintro (z | z | z) <;> contradiction)] at hK
  exact hK
theorem c_pull_25 {C : CC} (hC : Clo C) {d : Nat} {M : MT} {K : KT} {b : BV} {one : Nat} (hb : Bd 25 b M) (hz : SZb b) (h1 : one < nP b) (hK : K (some (.int (pullS b one (nP b)))) M) : C d 24 [.ref 25, .int (nI one)] M K := by
  obtain ⟨z1, z2, z3, z4, z5, z6, z7⟩ := hz
  have p0 : M 25 0 = nI (nP b) := hb.1.1.trans z1
  refine g_X2_pull hC (fun X hX => ?_)
  have loop : ∀ (n j : Nat), j + n = nP b → X 12 [some (.ref 25), some (.int (nI one)), some (.int (b (26 + one))), some (.int (pullS b one j)), some (.int (nI j))] [] M := by
    intro n
    induction n with
    | zero =>
      intro j hj
      refine b_X2_pull_12 hX ?_
      conv => whnf
      refine ⟨fun q => ?_, fun q => absurd ?_ q⟩
      · refine b_X2_pull_51 hX ?_
        conv => whnf
        rw [Nat.add_zero] at hj
        subst hj
        exact hK
      · rw [p0]; exact nI_le (by omega) (by omega)
    | succ n ih =>
      intro j hj
      refine b_X2_pull_12 hX ?_
      conv => whnf
      refine ⟨fun q => absurd q (by rw [p0]; exact nI_ge (by omega) (by omega)), fun q => ?_⟩
      conv => whnf
      refine ⟨5 * one + j, (by simp only [lit_nI, nI_add, nI_mul]), by omega, ?_⟩
      conv => whnf
      refine ⟨j, rfl, by omega, ?_⟩
      conv => whnf
      rw [hb.2.2.1 (5 * one + j) (by omega), (hb.2.1 j (by omega)).2.2, nI_1]
      exact ih (j + 1) (by omega)
  refine b_X2_pull_0 hX ?_
  conv => whnf
  refine ⟨one, rfl, by omega, ?_⟩
  conv => whnf
  rw [(hb.2.1 one h1).2.2]
  exact loop (nP b) 0 (by omega)
theorem c_nearing_25 {C : CC} (hC : Clo C) {d : Nat} {M : MT} {K : KT} {b : BV} {k v : Int32} (hb : Bd 25 b M) (hK : K (some (.int (nearS b k v))) M) : C d 25 [.ref 25, .int k, .int v] M K := by
  unfold nearS at hK
  have e : M 25 7 = b 3 := hb.1.2.2.2.2.2.2.2
  rw [← e] at hK
  refine g_X2_nearing hC (fun X hX => ?_)
  refine b_X2_nearing_0 hX ?_
  conv => whnf
  refine ⟨by decide, ?_⟩
  conv => whnf
  refine ⟨fun q => ?_, fun q => ?_⟩
  · rw [if_neg q] at hK
    refine b_X2_nearing_21 hX ?_
    conv => whnf
    refine ⟨fun q2 => ?_, fun q2 => ?_⟩
    · rw [if_neg q2] at hK
      refine b_X2_nearing_32 hX ?_
      conv => whnf
      exact hK
    · rw [if_pos q2] at hK
      conv => whnf
      refine ⟨by decide, ?_⟩
      conv => whnf
      exact hK
  · rw [if_pos q] at hK
    conv => whnf
    exact hK
theorem c_leanAt_25 {C : CC} (hC : Clo C) {d : Nat} {M : MT} {K : KT} {b : BV} {p : Nat} {bar : Int32} (hb : Bd 25 b M) (h5 : nP b ≤ 5) (hp : p < nP b) (hK : K (some (.int (leanS b (b (21 + p)) bar))) M) : C d 21 [.ref 25, .int (nI p), .int bar] M K := by
  have e0 : M 25 4 = b 0 := hb.1.2.2.2.2.1
  have e1 : M 25 5 = b 1 := hb.1.2.2.2.2.2.1
  have e2 : M 25 6 = b 2 := hb.1.2.2.2.2.2.2.1
  have e3 := (hb.2.1 p hp).1
  unfold leanS at hK
  rw [← e0, ← e1, ← e2, ← e3] at hK
  generalize hk : M 26 p = k at hK
  refine g_X2_leanAt hC (fun X hX => ?_)
  refine b_X2_leanAt_0 hX ?_
  conv => whnf
  refine ⟨p, rfl, by omega, ?_⟩
  have go : (k = 1 ∨ k = 2 ∨ k = 3) → X 24 [some (.ref 25), some (.int (nI p)), some (.int bar), some (.int k)] [] M := fun q => by
    rw [if_pos q] at hK
    refine b_X2_leanAt_24 hX ?_
    conv => whnf
    have t1 : (1 : Int32).toInt = 1 := by decide
    have t2 : (2 : Int32).toInt = 2 := by decide
    have t3 : (3 : Int32).toInt = 3 := by decide
    refine ⟨fun h => ?_, fun h => ?_, fun h => ?_, fun h => ?_, trivial⟩
    · have n1 : ¬ bar = 1 := fun z => by rw [z, t1] at h; omega
      have n2 : ¬ bar = 2 := fun z => by rw [z, t2] at h; omega
      have n3 : ¬ bar = 3 := fun z => by rw [z, t3] at h; omega
      rw [if_neg n1, if_neg n2, if_neg n3] at hK
      refine b_X2_leanAt_97 hX ?_
      conv => whnf
      exact hK
    · have n1 : bar = 1 := Int32.toInt_inj.mp (by rw [h, t1])
      rw [if_pos n1] at hK
      refine b_X2_leanAt_52 hX ?_
      conv => whnf
      refine ⟨fun z => ?_, fun z => ?_⟩
      · rw [if_neg z] at hK
        refine b_X2_leanAt_66 hX ?_
        conv => whnf
        exact hK
      · rw [if_pos z] at hK
        conv => whnf
        exact hK
    · have n1 : bar = 2 := Int32.toInt_inj.mp (by rw [h, t2]; rfl)
      subst n1
      rw [if_neg (by decide), if_pos rfl] at hK
      refine b_X2_leanAt_71 hX ?_
      conv => whnf
      refine ⟨fun z => ?_, fun z => ?_⟩
      · rw [if_neg z] at hK
        refine b_X2_leanAt_86 hX ?_
        conv => whnf
        exact hK
      · rw [if_pos z] at hK
        conv => whnf
        exact hK
    · have n1 : bar = 3 := Int32.toInt_inj.mp (by rw [h, t3]; rfl)
      subst n1
      rw [if_neg (by decide), if_neg (by decide), if_pos rfl] at hK
      refine b_X2_leanAt_92 hX ?_
      conv => whnf
      exact hK
  conv => whnf
  rw [hk]
  refine ⟨fun q => go (Or.inl q), fun q1 => ?_⟩
  conv => whnf
  refine ⟨fun q => go (Or.inr (Or.inl q)), fun q2 => ?_⟩
  conv => whnf
  refine ⟨fun q => go (Or.inr (Or.inr q)), fun q3 => ?_⟩
  conv => whnf
  rw [if_neg (by rintro (z | z | z) <;> contradiction)] at hK
  exact hK
