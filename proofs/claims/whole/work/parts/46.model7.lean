/-! THE REFERENCE: rounds, pushers, dancers -/
theorem m_areAlike {C : CC} (hC : Clo C) {d : Nat} {M : MT} {K : KT} {t u P : Nat} {b1 b2 : BV} (ht : t ≤ 200) (hu : u ≤ 200) (hP : P ≤ 5) (e5 : M 62 5 = nI P) (h1 : (∀ p, p < 5 → M 74 (6 * t + p) = b1 (26 + p)) ∧ M 74 (6 * t + 5) = b1 6) (h2 : (∀ p, p < 5 → M 74 (6 * u + p) = b2 (26 + p)) ∧ M 74 (6 * u + 5) = b2 6) (hY : alikeP P b1 b2 → K (some (.int 1)) M) (hN : ¬ alikeP P b1 b2 → K (some (.int 0)) M) : C d 171 [.ref 61, .int (nI t), .int (nI u)] M K := by
  refine g_X8_areAlike hC (fun X hX => ?_)
  have loop : ∀ (m p : Nat) (x : Int32), p + m = P → ((x = 1 ∧ b1 6 = b2 6 ∧ ∀ i, i < p → b1 (26 + i) = b2 (26 + i)) ∨ (x = 0 ∧ ¬ (b1 6 = b2 6 ∧ ∀ i, i < p → b1 (26 + i) = b2 (26 + i)))) → X 34 [some (.ref 61), some (.int (nI t)), some (.int (nI u)), some (.int x), some (.int (nI p))] [] M := by
    intro m
    induction m with
    | zero =>
      intro p x hp hx
      rw [Nat.add_zero] at hp
      subst hp
      refine b_X8_areAlike_34 hX ?_
      conv => whnf
      refine ⟨5, rfl, by decide, ?_⟩
      conv => whnf
      rw [e5]
      refine ⟨fun q => ?_, fun q => absurd (nI_le (by omega) (by omega)) q⟩
      refine b_X8_areAlike_88 hX ?_
      conv => whnf
      rcases hx with ⟨rfl, hx⟩ | ⟨rfl, hx⟩
      · exact ⟨Or.inr rfl, hY hx⟩
      · exact ⟨Or.inl rfl, hN hx⟩
    | succ m ih =>
      intro p x hp hx
      have b80 : ¬ (b1 6 = b2 6 ∧ ∀ i, i < p + 1 → b1 (26 + i) = b2 (26 + i)) → X 80 [some (.ref 61), some (.int (nI t)), some (.int (nI u)), some (.int x), some (.int (nI p))] [] M := fun hh => by
        refine b_X8_areAlike_80 hX ?_
        conv => whnf
        refine b_X8_areAlike_81 hX ?_
        conv => whnf
        rw [nI_1]
        exact ih (p + 1) 0 (by omega) (Or.inr ⟨rfl, hh⟩)
      refine b_X8_areAlike_34 hX ?_
      conv => whnf
      refine ⟨5, rfl, by decide, ?_⟩
      conv => whnf
      rw [e5]
      refine ⟨fun q => absurd q (nI_ge (by omega) (by omega)), fun q => ?_⟩
      conv => whnf
      rcases hx with ⟨rfl, hx⟩ | ⟨rfl, hx⟩
      rotate_left
      · exact ⟨fun _ => b80 (fun z => hx ⟨z.1, fun i hi => z.2 i (by omega)⟩), fun z => absurd rfl z⟩
      refine ⟨fun z => absurd z (by decide), fun _ => ?_⟩
      conv => whnf
      refine ⟨6 * t + p, (by simp only [lit_nI, nI_add, nI_mul]), by omega, ?_⟩
      conv => whnf
      refine ⟨6 * u + p, (by simp only [lit_nI, nI_add, nI_mul]), by omega, ?_⟩
      conv => whnf
      rw [h1.1 p (by omega), h2.1 p (by omega)]
      refine ⟨fun q => b80 (fun z => q (z.2 p (by omega))), fun q => ?_⟩
      conv => whnf
      rw [nI_1]
      exact ih (p + 1) 1 (by omega) (Or.inl ⟨rfl, hx.1, fun i hi => by
        by_cases z : i = p
        · subst z; exact q
        · exact hx.2 i (by omega)⟩)
  refine b_X8_areAlike_0 hX ?_
  conv => whnf
  refine ⟨6 * t + 5, (by simp only [lit_nI, nI_add, nI_mul]), by omega, ?_⟩
  conv => whnf
  refine ⟨6 * u + 5, (by simp only [lit_nI, nI_add, nI_mul]), by omega, ?_⟩
  conv => whnf
  rw [h1.2, h2.2]
  refine ⟨fun q => ?_, fun q => ?_⟩
  · refine b_X8_areAlike_29 hX ?_
    conv => whnf
    refine b_X8_areAlike_30 hX ?_
    conv => whnf
    exact loop P 0 0 (by omega) (Or.inr ⟨rfl, fun z => q z.1⟩)
  · conv => whnf
    exact loop P 0 1 (by omega) (Or.inl ⟨rfl, q, fun i hi => absurd hi (by omega)⟩)
theorem rndS_hit {b : BV} {n t u : Nat} (h : scanS (fun u => alikeP (nP b) (playsS (-1) t b) (playsS (-1) u b)) t 0 = some u) : rndS b (n + 1) t = some (t, u) := by
  show (match scanS (fun u => alikeP (nP b) (playsS (-1) t b) (playsS (-1) u b)) t 0 with | some u => some (t, u) | none => rndS b n (t + 1)) = _
  rw [h]
theorem rndS_miss {b : BV} {n t : Nat} (h : scanS (fun u => alikeP (nP b) (playsS (-1) t b) (playsS (-1) u b)) t 0 = none) : rndS b (n + 1) t = rndS b n (t + 1) := by
  show (match scanS (fun u => alikeP (nP b) (playsS (-1) t b) (playsS (-1) u b)) t 0 with | some u => some (t, u) | none => rndS b n (t + 1)) = _
  rw [h]
theorem mo_round {C : CC} (hC : Clo C) {d : Nat} (hd : 8 ≤ d) {σ M : MT} {K : KT} {what : Int32} (hA : AM σ M) (hW : WF σ) (hK : ∀ M1, AM σ M1 → Fm M M1 61 75 → K (some (.int (roundR σ what))) M1) : C d 170 [.ref 61, .int what] M K := by
  obtain ⟨pe, p5, pw, p0⟩ := hW.pl
  have hb : ∀ k, k < 61 → M 62 k = σ 5 k := fun k hk => (hA.2.2.2.2.1 k hk).1
  have e5 : M 62 5 = nI (nP (σ 5)) := (hb 5 (by omega)).trans pe
  replace hK : ∀ M1, Fs M M1 → K (some (.int (roundR σ what))) M1 := fun M1 f => hK M1 (hA.scr f) f.fm
  unfold roundR at hK
  refine g_X8_round hC (fun X hX => ?_)
  refine b_X8_round_0 hX ?_
  conv => whnf
  refine ⟨by omega, m_none hC hA hW (fun hP => ?_) (fun hP => ?_)⟩
  · rw [pit_pos hP] at hK
    conv => whnf
    refine ⟨fun q => absurd q (by decide), fun _ => ?_⟩
    conv => whnf
    exact hK M Fs.rf
  have hw := pw hP
  have hz := hw.1
  have hP0 : ¬ nP (σ 5) = 0 := by omega
  rw [pit_neg hP0] at hK
  conv => whnf
  refine ⟨fun _ => ?_, fun z => absurd rfl z⟩
  refine b_X8_round_10 hX ?_
  conv => whnf
  refine ⟨by omega, m_in hC (fun a0 b0 => ?_) (fun q => ?_)⟩
  rotate_left
  · rw [pit_neg q] at hK
    conv => whnf
    refine ⟨fun z => absurd rfl z, fun _ => ?_⟩
    conv => whnf
    exact hK M Fs.rf
  conv => whnf
  refine ⟨fun _ => ?_, fun z => absurd z (by decide)⟩
  have ok : (0 ≤ what ∧ what ≤ 1) := ⟨a0, b0⟩
  rw [pit_pos ok] at hK
  refine b_X8_round_23 hX ?_
  conv => whnf
  refine ⟨by omega, m_layNow (b := σ 5) hC hb (fun M0 g0 f0 => ?_)⟩
  conv => whnf
  have loop : ∀ (m t : Nat) (o : Option Value) (M' : MT), t + m = 201 → Wk (playsS (-1) t (σ 5)) (-1) M' → Fs M M' → rndS (σ 5) 200 1 = rndS (σ 5) m t → (∀ u, u < t → (∀ p, p < 5 → M' 74 (6 * u + p) = playsS (-1) u (σ 5) (26 + p)) ∧ M' 74 (6 * u + 5) = playsS (-1) u (σ 5) 6) → X 29 [some (.ref 61), some (.int what), some (.int (nI t)), o] [] M' := by
    intro m
    induction m with
    | zero =>
      intro t o M' ht g f hr hg
      have ht : t = 201 := by omega
      subst ht
      refine b_X8_round_29 hX ?_
      conv => whnf
      refine ⟨fun q => ?_, fun q => absurd (by decide) q⟩
      refine b_X8_round_123 hX ?_
      conv => whnf
      have := hK M' f
      unfold rndR at this
      rw [hr] at this
      exact this
    | succ m ih =>
      intro t o M' ht g f hr hg
      refine b_X8_round_29 hX ?_
      conv => whnf
      refine ⟨fun q => absurd ((lt_nI (a := 200) (by omega) (by omega)).mp q) (by omega), fun q => ?_⟩
      conv => whnf
      have in2 : ∀ (j u : Nat) (M2 : MT), u + j = t → Wk (playsS (-1) t (σ 5)) (-1) M2 → Fs M M2 → (∀ u, u < t + 1 → (∀ p, p < 5 → M2 74 (6 * u + p) = playsS (-1) u (σ 5) (26 + p)) ∧ M2 74 (6 * u + 5) = playsS (-1) u (σ 5) 6) → scanS (fun u => alikeP (nP (σ 5)) (playsS (-1) t (σ 5)) (playsS (-1) u (σ 5))) t 0 = scanS (fun u => alikeP (nP (σ 5)) (playsS (-1) t (σ 5)) (playsS (-1) u (σ 5))) j u → X 83 [some (.ref 61), some (.int what), some (.int (nI t)), some (.int (nI u))] [] M2 := by
        intro j
        induction j with
        | zero =>
          intro u M2 hu g2 f2 hg2 hs
          rw [Nat.add_zero] at hu
          subst hu
          refine b_X8_round_83 hX ?_
          conv => whnf
          refine ⟨fun q => ?_, fun q => absurd (nI_le (by omega) (by omega)) q⟩
          refine b_X8_round_113 hX ?_
          conv => whnf
          refine ⟨by omega, m_playsG hC (by omega) g2 hz.plays (hw.kinds.plays hz) (fun M3 g3 f3 e3 => ?_)⟩
          rw [← playsS_succ] at g3
          conv => whnf
          rw [nI_1]
          refine ih (u + 1) _ M3 (by omega) g3 (f2.tr f3) (hr.trans (rndS_miss hs)) (fun v hv => by rw [e3]; exact hg2 v hv)
        | succ j jh =>
          intro u M2 hu g2 f2 hg2 hs
          refine b_X8_round_83 hX ?_
          conv => whnf
          refine ⟨fun q => absurd q (nI_ge (by omega) (by omega)), fun q => ?_⟩
          conv => whnf
          refine ⟨by omega, m_areAlike (P := nP (σ 5)) hC (by omega) (by omega) p5 (by rw [Wk.f62 f2]; exact e5) (hg2 t (by omega)) (hg2 u (by omega)) (fun al => ?_) (fun al => ?_)⟩
          · rw [scanS_hit al] at hs
            rw [rndS_hit hs] at hr
            unfold rndR at hK
            rw [hr] at hK
            have hK : ∀ M1, Fs M M1 → K (some (.int (pit (what = 0) (nI t) (nI u)))) M1 := hK
            conv => whnf
            refine ⟨fun q => absurd q (by decide), fun _ => ?_⟩
            conv => whnf
            refine ⟨fun w0 => ?_, fun w0 => ?_⟩
            · rw [pit_neg w0] at hK
              refine b_X8_round_105 hX ?_
              conv => whnf
              refine b_X8_round_106 hX ?_
              conv => whnf
              exact hK M2 f2
            · rw [pit_pos w0] at hK
              conv => whnf
              exact hK M2 f2
          · rw [scanS_miss al] at hs
            conv => whnf
            refine ⟨fun _ => ?_, fun z => absurd rfl z⟩
            refine b_X8_round_107 hX ?_
            conv => whnf
            rw [nI_1]
            exact jh (u + 1) M2 (by omega) g2 f2 hg2 hs
      have in1 : ∀ (j p : Nat) (M2 : MT), p + j = 5 → (∀ q, q ≠ 74 → M2 q = M' q) → (∀ i, (i < 6 * t ∨ 6 * t + 5 < i) → M2 74 i = M' 74 i) → (∀ i, i < p → M2 74 (6 * t + i) = playsS (-1) t (σ 5) (26 + i)) → X 38 [some (.ref 61), some (.int what), some (.int (nI t)), some (.int (nI p))] [] M2 := by
        intro j
        induction j with
        | zero =>
          intro p M2 hp h1 h2 h3
          have hp : p = 5 := by omega
          subst hp
          refine b_X8_round_38 hX ?_
          conv => whnf
          refine ⟨fun q => ?_, fun q => absurd (by decide) q⟩
          refine b_X8_round_66 hX ?_
          conv => whnf
          refine ⟨6 * t + 5, (by simp only [lit_nI, nI_add, nI_mul]), by omega, ?_⟩
          conv => whnf
          rw [h1 61 (by decide), g.2.2.1]
          refine in2 t 0 _ (by omega) (g.fr (by rw [wr_off (by decide), h1 61 (by decide)]) (by rw [wr_off (by decide), h1 62 (by decide)]) (fun q a1 a2 _ => by rw [wr_off (by omega), h1 q (by omega)])) ⟨fun q a b => by rw [wr_off (by omega), h1 q (by omega)]; exact f.1 q a b, fun k a b => by rw [wr_off (by decide), h1 61 (by decide)]; exact f.2 k a b⟩ (fun u hu => ?_) rfl
          by_cases z : u = t
          · subst z
            exact ⟨fun p hp => by rw [wr_ne (by omega)]; exact h3 p hp, wr_at⟩
          · obtain ⟨c1, c2⟩ := hg u (by omega)
            exact ⟨fun p hp => by rw [wr_ne (by omega), h2 _ (by omega)]; exact c1 p hp, by rw [wr_ne (by omega), h2 _ (by omega)]; exact c2⟩
        | succ j jh =>
          intro p M2 hp h1 h2 h3
          refine b_X8_round_38 hX ?_
          conv => whnf
          refine ⟨fun q => absurd ((le_nI (a := 5) (by omega) (by omega)).mp q) (by omega), fun q => ?_⟩
          conv => whnf
          refine ⟨p, rfl, by omega, ?_⟩
          conv => whnf
          refine ⟨6 * t + p, (by simp only [lit_nI, nI_add, nI_mul]), by omega, ?_⟩
          conv => whnf
          rw [nI_1, h1 69 (by decide), (g.2.2.2.2.1 p (by omega)).2.2]
          refine jh (p + 1) _ (by omega) (fun q a => by rw [wr_off a]; exact h1 q a) (fun i hi => by rw [wr_ne (by omega)]; exact h2 i hi) (fun i hi => ?_)
          by_cases z : i = p
          · subst z; exact wr_at
          · rw [wr_ne (by omega)]; exact h3 i (by omega)
      exact in1 5 0 M' (by omega) (fun _ _ => rfl) (fun _ _ => rfl) (fun i hi => absurd hi (by omega))
  exact loop 201 0 none M0 (by omega) g0 f0 rfl (fun u hu => absurd hu (by omega))
