noncomputable def scanS (f : Nat → Prop) : Nat → Nat → Option Nat
  | 0, _ => none
  | n + 1, u => @ite _ (f u) (Classical.propDecidable _) (some u) (scanS f n (u + 1))
theorem scanS_hit {f : Nat → Prop} {n u : Nat} (h : f u) : scanS f (n + 1) u = some u := if_pos h
theorem scanS_miss {f : Nat → Prop} {n u : Nat} (h : ¬ f u) : scanS f (n + 1) u = scanS f n (u + 1) := if_neg h
def alikeP (P : Nat) (b1 b2 : BV) : Prop := b1 6 = b2 6 ∧ ∀ p, p < P → b1 (26 + p) = b2 (26 + p)
noncomputable def rndS (b : BV) : Nat → Nat → Option (Nat × Nat)
  | 0, _ => none
  | n + 1, t => match scanS (fun u => alikeP (nP b) (playsS (-1) t b) (playsS (-1) u b)) t 0 with
    | some u => some (t, u)
    | none => rndS b n (t + 1)
theorem nP_plays {st : Int32} : ∀ {n : Nat} {b : BV}, nP (playsS st n b) = nP b := by
  intro n
  induction n with
  | zero => intro b; rfl
  | succ n ih => intro b; exact (ih (b := playS st b)).trans nP_playS
theorem c_remember {C : CC} (hC : Clo C) {d : Nat} (hd : 1 ≤ d) {M : MT} {K : KT} {k : Nat} (hk : k ≤ 200) (hK : K none (cp (wr M 40 k (M 25 2)) 28 39 0 (5 * k) 5)) : C d 43 [.ref 24, .int (nI k)] M K := by
  refine g_X5_remember hC (fun X hX => ?_)
  refine b_X5_remember_0 hX ?_
  conv => whnf
  refine ⟨k, rfl, by omega, ?_⟩
  conv => whnf
  refine ⟨by omega, 0, 5 * k, 5, rfl, ?_, rfl, by decide, by omega, ?_⟩
  · rw [Nat.mul_comm]; exact (by simp only [lit_nI, nI_add, nI_mul])
  conv => whnf
  exact hK
theorem c_isAs {C : CC} (hC : Clo C) {d : Nat} {M : MT} {K : KT} {k P : Nat} (hk : k ≤ 200) (hp : M 25 0 = nI P) (hP : P ≤ 5) (h1 : (M 40 k = M 25 2 ∧ ∀ p, p < P → M 39 (5 * k + p) = M 28 p) → K (some (.int 1)) M) (h0 : ¬ (M 40 k = M 25 2 ∧ ∀ p, p < P → M 39 (5 * k + p) = M 28 p) → K (some (.int 0)) M) : C d 44 [.ref 24, .int (nI k)] M K := by
  refine g_X5_isAs hC (fun X hX => ?_)
  refine b_X5_isAs_0 hX ?_
  conv => whnf
  refine ⟨k, rfl, by omega, ?_⟩
  conv => whnf
  refine ⟨fun e => ?_, fun e => ?_⟩
  · have loop : ∀ (n j : Nat), j + n = P → (∀ p, p < j → M 39 (5 * k + p) = M 28 p) → X 20 [some (.ref 24), some (.int (nI k)), some (.int (nI j))] [] M := by
      intro n
      induction n with
      | zero =>
        intro j hj h
        rw [Nat.add_zero] at hj
        subst hj
        refine b_X5_isAs_20 hX ?_
        conv => whnf
        refine ⟨fun q => ?_, fun q => absurd (by rw [hp]; exact nI_le (by omega) (by omega)) q⟩
        refine b_X5_isAs_61 hX ?_
        conv => whnf
        exact ⟨Or.inr rfl, h1 ⟨e, h⟩⟩
      | succ n ih =>
        intro j hj h
        refine b_X5_isAs_20 hX ?_
        conv => whnf
        refine ⟨fun q => absurd q (by rw [hp]; exact nI_ge (by omega) (by omega)), fun q => ?_⟩
        conv => whnf
        refine ⟨5 * k + j, by rw [Nat.mul_comm]; exact (by simp only [lit_nI, nI_add, nI_mul]), by omega, ?_⟩
        conv => whnf
        refine ⟨j, rfl, by omega, ?_⟩
        conv => whnf
        refine ⟨fun e2 => ?_, fun e2 => ?_⟩
        · refine b_X5_isAs_55 hX ?_
          conv => whnf
          rw [nI_1]
          refine ih (j + 1) (by omega) (fun p hp => ?_)
          by_cases z : p = j
          · subst z; exact e2
          · exact h p (by omega)
        · conv => whnf
          exact ⟨Or.inl rfl, h0 (fun z => e2 (z.2 j (by omega)))⟩
    refine b_X5_isAs_18 hX ?_
    conv => whnf
    exact loop P 0 (by omega) (fun p hp => absurd hp (by omega))
  · conv => whnf
    exact ⟨Or.inl rfl, h0 (fun z => e z.1)⟩
theorem c_findRound {C : CC} (hC : Clo C) {d : Nat} (hd : 3 ≤ d) {M : MT} {K : KT} {b : BV} (hb : Bd 8 b M) (hz : SZb b) (hK1 : ∀ t u M', rndS b 200 1 = some (t, u) → M' 24 4 = nI t → M' 24 5 = nI u → Fm M M' 24 40 → K (some (.int 1)) M') (hK0 : ∀ M', rndS b 200 1 = none → Fm M M' 24 40 → K (some (.int 0)) M') : C d 42 [.ref 24, .ref 8] M K := by
  have z3 := hz.2.2.1
  have z12 := hz.2.2.2.2.1
  refine g_X5_findRound hC (fun X hX => ?_)
  have rem : ∀ (k : Nat) (M' : MT), k ≤ 200 → Bd 25 (playsS (-1) k b) M' → (∀ u, u < k → M' 40 u = playsS (-1) u b 6 ∧ ∀ p, p < nP b → M' 39 (5 * u + p) = playsS (-1) u b (26 + p)) → Fm M M' 24 40 →
      Bd 25 (playsS (-1) k b) (cp (wr M' 40 k (M' 25 2)) 28 39 0 (5 * k) 5) ∧ (∀ u, u < k + 1 → (cp (wr M' 40 k (M' 25 2)) 28 39 0 (5 * k) 5) 40 u = playsS (-1) u b 6 ∧ ∀ p, p < nP b → (cp (wr M' 40 k (M' 25 2)) 28 39 0 (5 * k) 5) 39 (5 * u + p) = playsS (-1) u b (26 + p)) ∧ Fm M (cp (wr M' 40 k (M' 25 2)) 28 39 0 (5 * k) 5) 24 40 := by
    intro k M' hk h1 h2 h3
    have f : Fm M' (cp (wr M' 40 k (M' 25 2)) 28 39 0 (5 * k) 5) 39 40 := Fm.cp (Fm.wr Fm.rf (by decide) (by decide)) (by decide) (by decide)
    refine ⟨h1.fr f (by decide), fun u hu => ?_, h3.tr (f.mono (by decide) (by decide))⟩
    by_cases e : u = k
    · subst e
      refine ⟨?_, fun p hp => ?_⟩
      · rw [cp_off (by decide), wr_at]; exact h1.1.2.2.1
      · have := (h1.2.1 p (by rw [nP_plays]; exact hp)).2.2
        rw [← this]
        have c1 : 5 * u ≤ 5 * u + p ∧ 5 * u + p < 5 * u + 5 := by omega
        simp [cp, va_cpy, wr, c1]
    · obtain ⟨g1, g2⟩ := h2 u (by omega)
      refine ⟨?_, fun p hp => ?_⟩
      · rw [cp_off (by decide), wr_ne e]; exact g1
      · rw [cp_self]
        unfold va_cpy
        rw [if_neg (by omega), wr_off (by decide)]
        exact g2 p hp
  have inner : ∀ (k : Nat), 1 ≤ k → k ≤ 200 → ∀ (r : Option (Nat × Nat)), r = rndS b 200 1 → (scanS (fun u => alikeP (nP b) (playsS (-1) k b) (playsS (-1) u b)) k 0 = none → ∀ M', Bd 25 (playsS (-1) k b) M' → (∀ u, u < k + 1 → M' 40 u = playsS (-1) u b 6 ∧ ∀ p, p < nP b → M' 39 (5 * u + p) = playsS (-1) u b (26 + p)) → Fm M M' 24 40 → X 15 [some (.ref 24), some (.ref 8), some (.int (nI (k + 1))), some (.int (nI k))] [] M') → (∀ u, scanS (fun u => alikeP (nP b) (playsS (-1) k b) (playsS (-1) u b)) k 0 = some u → r = some (k, u)) →
      ∀ (m u : Nat) (M' : MT), u + m = k → scanS (fun u => alikeP (nP b) (playsS (-1) k b) (playsS (-1) u b)) k 0 = scanS (fun u => alikeP (nP b) (playsS (-1) k b) (playsS (-1) u b)) m u → Bd 25 (playsS (-1) k b) M' → (∀ u, u < k → M' 40 u = playsS (-1) u b 6 ∧ ∀ p, p < nP b → M' 39 (5 * u + p) = playsS (-1) u b (26 + p)) → Fm M M' 24 40 → X 31 [some (.ref 24), some (.ref 8), some (.int (nI k)), some (.int (nI u))] [] M' := by
    intro k hk1 hk2 r hr cont found m
    induction m with
    | zero =>
      intro u M' hu hs h1 h2 h3
      rw [Nat.add_zero] at hu
      subst hu
      refine b_X5_findRound_31 hX ?_
      conv => whnf
      refine ⟨fun q => ?_, fun q => absurd (nI_le (by omega) (by omega)) q⟩
      refine b_X5_findRound_62 hX ?_
      conv => whnf
      obtain ⟨r1, r2, r3⟩ := rem u M' hk2 h1 h2 h3
      refine ⟨by omega, c_remember hC (by omega) hk2 ?_⟩
      conv => whnf
      rw [nI_1]
      exact cont hs _ r1 r2 r3
    | succ m ih =>
      intro u M' hu hs h1 h2 h3
      have hz1 : SZb (playsS (-1) k b) := hz.plays
      refine b_X5_findRound_31 hX ?_
      conv => whnf
      refine ⟨fun q => absurd q (nI_ge (by omega) (by omega)), fun q => ?_⟩
      conv => whnf
      have eqv : (M' 40 u = M' 25 2 ∧ ∀ p, p < nP b → M' 39 (5 * u + p) = M' 28 p) ↔ alikeP (nP b) (playsS (-1) k b) (playsS (-1) u b) := by
        obtain ⟨g1, g2⟩ := h2 u (by omega)
        have g3 := h1.1.2.2.1
        constructor
        · rintro ⟨a1, a2⟩
          refine ⟨?_, fun p hp => ?_⟩
          · rw [← g3, ← a1, g1]
          · have := (h1.2.1 p (by rw [nP_plays]; exact hp)).2.2
            rw [← this, ← g2 p hp]
            exact (a2 p hp).symm
        · rintro ⟨a1, a2⟩
          refine ⟨?_, fun p hp => ?_⟩
          · rw [g1, g3, a1]
          · have := (h1.2.1 p (by rw [nP_plays]; exact hp)).2.2
            rw [g2 p hp, ← a2 p hp]
            exact this.symm
      refine ⟨by omega, c_isAs hC (P := nP b) (by omega) (by rw [h1.1.1, hz1.1, nP_plays]) z3 (fun q1 => ?_) (fun q0 => ?_)⟩
      · conv => whnf
        refine ⟨fun q => absurd q (by decide), fun _ => ?_⟩
        conv => whnf
        refine ⟨Or.inr rfl, ?_⟩
        rw [scanS_hit (eqv.mp q1)] at hs
        refine hK1 k u _ (hr.symm.trans (found u hs)) ?_ ?_ (h3.tr (Fm.wr (Fm.wr Fm.rf (by decide) (by decide)) (by decide) (by decide))) <;> simp [wr]
      · conv => whnf
        refine ⟨fun _ => ?_, fun z => absurd rfl z⟩
        refine b_X5_findRound_56 hX ?_
        conv => whnf
        rw [nI_1]
        rw [scanS_miss (fun z => q0 (eqv.mpr z))] at hs
        exact ih (u + 1) M' (by omega) hs h1 h2 h3
  have outer : ∀ (n k : Nat) (o : Option Value) (M' : MT), k + n = 201 → 1 ≤ k → rndS b 200 1 = rndS b n k → Bd 25 (playsS (-1) (k - 1) b) M' → (∀ u, u < k → M' 40 u = playsS (-1) u b 6 ∧ ∀ p, p < nP b → M' 39 (5 * u + p) = playsS (-1) u b (26 + p)) → Fm M M' 24 40 → X 15 [some (.ref 24), some (.ref 8), some (.int (nI k)), o] [] M' := by
    intro n
    induction n with
    | zero =>
      intro k o M' hk hk1 hr h1 h2 h3
      have hk : k = 201 := by omega
      subst hk
      refine b_X5_findRound_15 hX ?_
      conv => whnf
      refine ⟨fun q => ?_, fun q => absurd (by decide) q⟩
      refine b_X5_findRound_73 hX ?_
      conv => whnf
      exact ⟨Or.inl rfl, hK0 M' hr h3⟩
    | succ n ih =>
      intro k o M' hk hk1 hr h1 h2 h3
      refine b_X5_findRound_15 hX ?_
      conv => whnf
      refine ⟨fun q => absurd ((lt_nI (a := 200) (by omega) (by omega)).mp q) (by omega), fun q => ?_⟩
      conv => whnf
      refine ⟨by omega, c_play_25 hC (by omega) h1 hz.plays (fun M1 g1 g2 => ?_)⟩
      rw [← playsS_succ, show k - 1 + 1 = k by omega] at g1
      conv => whnf
      refine inner k hk1 (by omega) _ rfl (fun hn M2 a1 a2 a3 => ?_) (fun u hu => ?_) k 0 M1 (by omega) rfl g1 (fun u hu => ?_) (h3.tr (g2.mono (by decide) (by decide)))
      · refine ih (k + 1) _ M2 (by omega) (by omega) ?_ a1 a2 a3
        rw [hr]
        show (match scanS _ k 0 with | some u => some (k, u) | none => rndS b n (k + 1)) = _
        rw [hn]
      · rw [hr]
        show (match scanS _ k 0 with | some u => some (k, u) | none => rndS b n (k + 1)) = _
        rw [hu]
      · rw [g2 40 (by decide), g2 39 (by decide)]
        exact h2 u hu
  refine b_X5_findRound_0 hX ?_
  conv => whnf
  refine ⟨by omega, c_become_25_8 hC (by omega) hb z3 z12 (fun M1 g1 g2 => ?_)⟩
  conv => whnf
  obtain ⟨r1, r2, r3⟩ := rem 0 M1 (by omega) g1 (fun u hu => absurd hu (by omega)) (g2.mono (by decide) (by decide))
  refine ⟨by omega, c_remember hC (by omega) (k := 0) (by omega) ?_⟩
  conv => whnf
  exact outer 200 1 none _ (by omega) (by omega) rfl r1 r2 r3
noncomputable def notS (b : BV) (n : Nat) (dd : Int32) : Int32 := match scanS (fun k => dd < abs32 (meanS (playsS (-1) (k + 1) b) - meanS (playsS (-1) k b))) n 0 with
  | some k => nI k
  | none => -1000000
theorem c_firstNoticed {C : CC} (hC : Clo C) {d : Nat} (hd : 3 ≤ d) {M : MT} {K : KT} {b : BV} {n : Nat} {dd : Int32} (hb : Bd 8 b M) (hz : SZb b) (hn : n ≤ 200) (hK : ∀ M', Fm M M' 24 40 → K (some (.int (notS b n dd))) M') : C d 45 [.ref 24, .ref 8, .int (nI n), .int dd] M K := by
  unfold notS at hK
  refine g_X5_firstNoticed hC (fun X hX => ?_)
  have loop : ∀ (m k : Nat) (o : Option Value) (M' : MT), k + m = n → scanS (fun k => dd < abs32 (meanS (playsS (-1) (k + 1) b) - meanS (playsS (-1) k b))) n 0 = scanS (fun k => dd < abs32 (meanS (playsS (-1) (k + 1) b) - meanS (playsS (-1) k b))) m k → Bd 25 (playsS (-1) k b) M' → Fm M M' 24 40 → X 11 [some (.ref 24), some (.ref 8), some (.int (nI n)), some (.int dd), some (.int (nI k)), o] [] M' := by
    intro m
    induction m with
    | zero =>
      intro k o M' hk hs h1 h2
      rw [Nat.add_zero] at hk
      subst hk
      refine b_X5_firstNoticed_11 hX ?_
      conv => whnf
      refine ⟨fun q => ?_, fun q => absurd (nI_le (by omega) (by omega)) q⟩
      refine b_X5_firstNoticed_59 hX ?_
      conv => whnf
      rw [hs] at hK
      exact hK M' h2
    | succ m ih =>
      intro k o M' hk hs h1 h2
      have hz1 : SZb (playsS (-1) k b) := hz.plays
      have hz2 : SZb (playsS (-1) (k + 1) b) := hz.plays
      refine b_X5_firstNoticed_11 hX ?_
      conv => whnf
      refine ⟨fun q => absurd q (nI_ge (by omega) (by omega)), fun q => ?_⟩
      conv => whnf
      refine ⟨by omega, c_together_25 hC h1 hz1.1 hz1.2.2.1 ?_⟩
      conv => whnf
      refine ⟨by omega, c_play_25 hC (by omega) h1 hz1 (fun M1 g1 g2 => ?_)⟩
      rw [← playsS_succ] at g1
      conv => whnf
      refine ⟨by omega, c_together_25 hC g1 hz2.1 hz2.2.2.1 ?_⟩
      conv => whnf
      refine ⟨by omega, ?_⟩
      conv => whnf
      refine ⟨fun q1 => ?_, fun q1 => ?_⟩
      · refine b_X5_firstNoticed_53 hX ?_
        conv => whnf
        rw [nI_1]
        rw [scanS_miss (Int32.not_lt.mpr q1)] at hs
        exact ih (k + 1) _ M1 (by omega) hs g1 (h2.tr (g2.mono (by decide) (by decide)))
      · conv => whnf
        rw [scanS_hit (Int32.not_le.mp q1)] at hs
        rw [hs] at hK
        exact hK M1 (h2.tr (g2.mono (by decide) (by decide)))
  refine b_X5_firstNoticed_0 hX ?_
  conv => whnf
  refine ⟨by omega, c_become_25_8 hC (by omega) hb hz.2.2.1 hz.2.2.2.2.1 (fun M1 g1 g2 => ?_)⟩
  conv => whnf
  exact loop n 0 none M1 (by omega) rfl g1 (g2.mono (by decide) (by decide))
