theorem c_within {C : CC} (hC : Clo C) {d : Nat} {v lo hi : Int32} {M : MT} {K : KT} (h1 : lo ≤ v → v ≤ hi → K (some (.int 1)) M) (h0 : ¬ (lo ≤ v ∧ v ≤ hi) → K (some (.int 0)) M) : C d 118 [.int v, .int lo, .int hi] M K := by
  refine g_X7_within hC (fun X hX => ?_)
  have b14 : ¬ (lo ≤ v ∧ v ≤ hi) → X 14 [some (.int v), some (.int lo), some (.int hi)] [] M := fun q => by
    refine b_X7_within_14 hX ?_
    conv => whnf
    exact ⟨Or.inl rfl, h0 q⟩
  refine b_X7_within_0 hX ?_
  conv => whnf
  refine ⟨fun q => b14 (fun z => Int32.not_le.mpr q z.1), fun q => ?_⟩
  conv => whnf
  refine ⟨fun q2 => b14 (fun z => Int32.not_le.mpr q2 z.2), fun q2 => ?_⟩
  conv => whnf
  exact ⟨Or.inr rfl, h1 (Int32.not_lt.mp q) (Int32.not_lt.mp q2)⟩
theorem c_pull_loop {C : CC} {K : KT} {d : Nat} {X : XT} (hX : CloX C K d bl_X2_pull X) {M : MT} {one P : Nat} (h1 : one < 5) (hP : P ≤ 5) (hp : M 8 0 = nI P) {own : Int32} (hK : ∀ s : Int32, K (some (.int s)) M) : ∀ (n j : Nat) (s : Int32), j + n = P → X 12 [some (.ref 8), some (.int (nI one)), some (.int own), some (.int s), some (.int (nI j))] [] M := by
  intro n
  induction n with
  | zero =>
    intro j s hj
    refine b_X2_pull_12 hX ?_
    conv => whnf
    refine ⟨fun q => ?_, fun q => ?_⟩
    · refine b_X2_pull_51 hX ?_
      conv => whnf
      exact hK s
    · exact absurd (by rw [hp]; exact nI_le (by omega) (by omega)) q
  | succ n ih =>
    intro j s hj
    refine b_X2_pull_12 hX ?_
    conv => whnf
    refine ⟨fun q => absurd q (by rw [hp]; exact nI_ge (by omega) (by omega)), fun q => ?_⟩
    conv => whnf
    refine ⟨5 * one + j, ?_, by omega, ?_⟩
    · sorry
    conv => whnf
    refine ⟨j, rfl, by omega, ?_⟩
    conv => whnf
    trace_state
    sorry
