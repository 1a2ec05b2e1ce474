/-! THE REFERENCE: questions, further -/
theorem Wk.f62 {M M' : MT} (f : Fs M M') : M' 62 = M 62 := f.1 62 (by decide) (by decide)
theorem fsp {M M' : MT} (h : ∀ q, q ≠ 69 → M' q = M q) : Fs M M' := ⟨fun q a b => h q (by omega), fun k _ _ => by rw [h 61 (by decide)]⟩
theorem kindsOK.eq {b b' : BV} (h : kindsOK b) (h5 : nP b ≤ 5) (e : ∀ k, (k < 26 ∨ 31 ≤ k) → b' k = b k) : kindsOK b' := fun i hi => by
  have : nP b' = nP b := by unfold nP; rw [e 5 (by omega)]
  rw [this] at hi
  rw [e _ (by omega)]
  exact h i hi
theorem mo_countIn {C : CC} (hC : Clo C) {d : Nat} (hd : 8 ≤ d) {σ M : MT} {K : KT} {n pace : Int32} (hA : AM σ M) (hW : WF σ) (hK : ∀ M1, AM σ M1 → Fm M M1 61 75 → K (some (.int (countInR σ n pace))) M1) : C d 174 [.ref 61, .int n, .int pace] M K := by
  obtain ⟨pe, p5, pw, p0⟩ := hW.pl
  have hb : ∀ k, k < 61 → M 62 k = σ 5 k := fun k hk => (hA.2.2.2.2.1 k hk).1
  have e5 : M 62 5 = nI (nP (σ 5)) := (hb 5 (by omega)).trans pe
  replace hK : ∀ M1, Fs M M1 → K (some (.int (countInR σ n pace))) M1 := fun M1 f => hK M1 (hA.scr f) f.fm
  unfold countInR at hK
  refine g_X8_countIn hC (fun X hX => ?_)
  refine b_X8_countIn_0 hX ?_
  conv => whnf
  refine ⟨by omega, m_none hC hA hW (fun hP => ?_) (fun hP => ?_)⟩
  · rw [pit_pos hP] at hK
    conv => whnf
    refine ⟨fun q => absurd q (by decide), fun _ => ?_⟩
    conv => whnf
    exact hK M Fs.rf
  have hw := pw hP
  have hz := hw.1
  have hP0 : ¬ nP (σ 5) = 0 := by omega
  rw [pit_neg hP0] at hK
  conv => whnf
  refine ⟨fun _ => ?_, fun z => absurd rfl z⟩
  have bB : ¬ ((0 ≤ n ∧ n ≤ 200) ∧ (300 ≤ pace ∧ pace ≤ 2500)) → X 36 [some (.ref 61), some (.int n), some (.int pace), none, none, none, none] [] M := fun q => by
    rw [pit_neg q] at hK
    refine b_X8_countIn_36 hX ?_
    conv => whnf
    exact hK M Fs.rf
  refine b_X8_countIn_10 hX ?_
  conv => whnf
  refine ⟨by omega, m_in hC (fun a0 b0 => ?_) (fun q => ?_)⟩
  rotate_left
  · conv => whnf
    exact ⟨fun _ => bB (fun z => q z.1), fun z => absurd rfl z⟩
  conv => whnf
  refine ⟨fun q => absurd q (by decide), fun _ => ?_⟩
  conv => whnf
  refine ⟨by omega, m_in hC (fun a1 b1 => ?_) (fun q => ?_)⟩
  rotate_left
  · conv => whnf
    exact ⟨fun z => absurd rfl z, fun _ => bB (fun z => q z.2)⟩
  conv => whnf
  refine ⟨fun _ => ?_, fun z => absurd z (by decide)⟩
  have ok : (0 ≤ n ∧ n ≤ 200) ∧ (300 ≤ pace ∧ pace ≤ 2500) := ⟨⟨a0, b0⟩, ⟨a1, b1⟩⟩
  rw [pit_pos ok] at hK
  refine b_X8_countIn_39 hX ?_
  conv => whnf
  obtain ⟨n, -, hn, rfl⟩ := rngL (lo := 0) (hi := 200) (by omega) a0 b0 (by omega)
  rw [tN_nI (by omega)] at hK
  unfold cntIn at hK
  have lab : ∀ k, (10 : Int32) * nI (40 + k) = nI (400 + 10 * k) := fun k => by
    rw [lit_nI, nI_mul, show 10 * (40 + k) = 400 + 10 * k by omega]
  have b136 : ∀ (k : Nat) (M' : MT) (x y v : Int32), X 51 [some (.ref 61), some (.int (nI n)), some (.int pace), some (.int x), some (.int v), some (.int (nI (400 + 10 * (k + 1)))), some (.int y)] [] M' → ∀ w, X 136 [some (.ref 61), some (.int (nI n)), some (.int pace), some (.int x), some (.int w), some (.int (nI (400 + 10 * k))), some (.int y)] [.int v] M' := by
    intro k M' x y v hh w
    refine b_X8_countIn_136 hX ?_
    conv => whnf
    rw [show nI (400 + 10 * k) + 10 = nI (400 + 10 * (k + 1)) by rw [lit_nI, nI_add, show 400 + 10 * k + 10 = 400 + 10 * (k + 1) by omega]]
    exact hh
  have loop : ∀ (m k : Nat) (o : Option Value) (M' : MT), k + m = 60 → Fs M M' → X 51 [some (.ref 61), some (.int (nI n)), some (.int pace), some (.int (bestS (offC (σ 5) n pace) (fun k => 10 * nI (40 + k)) k).1), some (.int (bestS (offC (σ 5) n pace) (fun k => 10 * nI (40 + k)) k).2), some (.int (nI (400 + 10 * k))), o] [] M' := by
    intro m
    induction m with
    | zero =>
      intro k o M' hk f
      have hk : k = 60 := by omega
      subst hk
      refine b_X8_countIn_51 hX ?_
      conv => whnf
      refine ⟨fun q => ?_, fun q => absurd (by decide) q⟩
      refine b_X8_countIn_144 hX ?_
      conv => whnf
      exact hK M' f
    | succ m ih =>
      intro k o M' hk f
      refine b_X8_countIn_51 hX ?_
      conv => whnf
      refine ⟨fun q => absurd ((lt_nI (a := 990) (by omega) (by omega)).mp q) (by omega), fun q => ?_⟩
      conv => whnf
      refine ⟨by omega, m_layNow (b := σ 5) hC (fun k hk => by rw [Wk.f62 f]; exact hb k hk) (fun M1 g1 f1 => ?_)⟩
      conv => whnf
      have inner : ∀ (j p : Nat) (M2 : MT), p + j = nP (σ 5) → (∀ q, q ≠ 69 → M2 q = M1 q) → (∀ i, i < 5 → M2 69 i = if i < p then nI (400 + 10 * k) else σ 5 (26 + i)) → X 66 [some (.ref 61), some (.int (nI n)), some (.int pace), some (.int (bestS (offC (σ 5) n pace) (fun k => 10 * nI (40 + k)) k).1), some (.int (bestS (offC (σ 5) n pace) (fun k => 10 * nI (40 + k)) k).2), some (.int (nI (400 + 10 * k))), some (.int (nI p))] [] M2 := by
        intro j
        induction j with
        | zero =>
          intro p M2 hp h1 h2
          rw [Nat.add_zero] at hp
          subst hp
          have g4 : Wk (allP (σ 5) (nI (400 + 10 * k))) (-1) M2 := g1.paces h1 (fun i hi => by
            rw [h2 i hi]
            by_cases z : i < nP (σ 5)
            · rw [if_pos z, allP_pace z]
            · rw [if_neg z]
              unfold allP
              rw [if_neg (by omega)]) (fun k hk => allP_lo hk p5)
          have hz4 : SZb (allP (σ 5) (nI (400 + 10 * k))) := hz.all
          have f4 := fsp h1
          refine b_X8_countIn_66 hX ?_
          conv => whnf
          refine ⟨5, rfl, by decide, ?_⟩
          conv => whnf
          rw [h1 62 (by decide), Wk.f62 f1, Wk.f62 f, e5]
          refine ⟨fun q => ?_, fun q => absurd (nI_le (by omega) (by omega)) q⟩
          refine b_X8_countIn_92 hX ?_
          conv => whnf
          refine ⟨by omega, m_playsMany hC (by omega) hn g4 hz4 (hw.kinds.eq p5 (fun k hk => allP_lo hk p5)) (fun M5 g5 f5 => ?_)⟩
          conv => whnf
          refine ⟨by omega, m_mean hC g5 hz4.plays ?_⟩
          conv => whnf
          refine ⟨by omega, m_plain hC ?_⟩
          conv => whnf
          have hn5 := fun o => ih (k + 1) o M5 (by omega) (((f.tr f1).tr f4).tr f5)
          have eo : offC (σ 5) n pace k = abs32 (meanS (playsS (-1) n (allP (σ 5) (nI (400 + 10 * k)))) - pace) := by unfold offC; rw [lab]
          rw [← eo]
          by_cases z : offC (σ 5) n pace k < (bestS (offC (σ 5) n pace) (fun k => 10 * nI (40 + k)) k).2
          · rw [show bestS (offC (σ 5) n pace) (fun k => 10 * nI (40 + k)) (k + 1) = (10 * nI (40 + k), offC (σ 5) n pace k) from if_pos z, lab] at hn5
            refine ⟨fun q => absurd z (Int32.not_lt.mpr q), fun _ => ?_⟩
            conv => whnf
            refine b_X8_countIn_121 hX ?_
            conv => whnf
            refine ⟨fun q => absurd z (Int32.not_lt.mpr q), fun _ => ?_⟩
            conv => whnf
            rw [show nI (400 + 10 * k) + 10 = nI (400 + 10 * (k + 1)) by rw [lit_nI, nI_add, show 400 + 10 * k + 10 = 400 + 10 * (k + 1) by omega]]
            exact hn5 _
          · rw [show bestS (offC (σ 5) n pace) (fun k => 10 * nI (40 + k)) (k + 1) = _ from if_neg z] at hn5
            refine ⟨fun _ => ?_, fun q => absurd (Int32.not_lt.mp z) q⟩
            refine b_X8_countIn_120 hX ?_
            conv => whnf
            refine b_X8_countIn_121 hX ?_
            conv => whnf
            refine ⟨fun _ => ?_, fun q => absurd (Int32.not_lt.mp z) q⟩
            refine b_X8_countIn_134 hX ?_
            conv => whnf
            refine b136 k M5 _ _ _ ?_ _
            exact hn5 _
        | succ j jh =>
          intro p M2 hp h1 h2
          refine b_X8_countIn_66 hX ?_
          conv => whnf
          refine ⟨5, rfl, by decide, ?_⟩
          conv => whnf
          rw [h1 62 (by decide), Wk.f62 f1, Wk.f62 f, e5]
          refine ⟨fun q => absurd q (nI_ge (by omega) (by omega)), fun q => ?_⟩
          conv => whnf
          refine ⟨p, rfl, by omega, ?_⟩
          conv => whnf
          rw [nI_1]
          refine jh (p + 1) _ (by omega) (fun q a => by rw [wr_off a]; exact h1 q a) (fun i hi => ?_)
          by_cases z : i = p
          · subst z; rw [wr_at, if_pos (by omega)]
          · rw [wr_ne z, h2 i hi]
            by_cases z2 : i < p
            · rw [if_pos z2, if_pos (by omega)]
            · rw [if_neg z2, if_neg (by omega)]
      exact inner (nP (σ 5)) 0 M1 (by omega) (fun _ _ => rfl) (fun i hi => by rw [if_neg (by omega)]; exact (g1.2.2.2.2.1 i hi).2.2)
  exact loop 60 0 none M (by omega) Fs.rf
theorem passP_succ {b : BV} {p : Nat} {dd : Int32} {w k : Nat} : passP b p dd w (k + 1) ↔ passP b p dd w k ∧ abs32 (meanS (backB b p dd w (k + 1)) - meanS (backB b p dd w k)) ≤ 9 := by
  constructor
  · exact fun h => ⟨fun i hi => h i (by omega), h k (by omega)⟩
  · intro h i hi
    by_cases z : i = k
    · subst z; exact h.2
    · exact h.1 i (by omega)
theorem kindsOK.back {b : BV} {p : Nat} {dd : Int32} {w : Nat} (h : kindsOK b) (h5 : nP b ≤ 5) : ∀ k, kindsOK (backB b p dd w k) := by
  intro k
  induction k with
  | zero => exact h
  | succ k ih =>
    show kindsOK (playS (-1) (if k = w then setB (backB b p dd w k) (26 + p) _ else backB b p dd w k))
    by_cases z : k = w
    · rw [if_pos z]
      exact (ih.set (by rw [nP_back]; exact h5) (by omega)).play (by rw [nP_setB (by omega), nP_back]; exact h5)
    · rw [if_neg z]
      exact ih.play (by rw [nP_back]; exact h5)
theorem m_farBy {C : CC} (hC : Clo C) {d : Nat} (hd : 6 ≤ d) {M : MT} {K : KT} {b : BV} {p n w : Nat} {dd pace : Int32} (hb : ∀ k, k < 61 → M 62 k = b k) (hz : SZb b) (hk : kindsOK b) (hp : p < nP b) (hn : n ≤ 40) (hw : w < n) (hK : ∀ M', Fs M M' → K (some (.int (offB b p dd n pace w))) M') : C d 178 [.ref 61, .int (nI p), .int dd, .int (nI n), .int pace, .int (nI w)] M K := by
  have p5 := hz.2.2.1
  refine g_X8_farBy hC (fun X hX => ?_)
  have loop : ∀ (m k : Nat) (x : Int32) (o : Option Value) (M' : MT), k + m = n → Wk (backB b p dd w k) (-1) M' → Fs M M' → ((x = 1 ∧ passP b p dd w k) ∨ (x = 0 ∧ ¬ passP b p dd w k)) → X 10 [some (.ref 61), some (.int (nI p)), some (.int dd), some (.int (nI n)), some (.int pace), some (.int (nI w)), some (.int x), some (.int (nI k)), o] [] M' := by
    intro m
    induction m with
    | zero =>
      intro k x o M' hkn g f hx
      rw [Nat.add_zero] at hkn
      subst hkn
      unfold offB at hK
      refine b_X8_farBy_10 hX ?_
      conv => whnf
      refine ⟨fun q => ?_, fun q => absurd (nI_le (by omega) (by omega)) q⟩
      refine b_X8_farBy_92 hX ?_
      conv => whnf
      rcases hx with ⟨rfl, hx⟩ | ⟨rfl, hx⟩
      · rw [if_pos hx] at hK
        refine ⟨fun z => absurd z (by decide), fun _ => ?_⟩
        conv => whnf
        refine ⟨by omega, m_mean hC g (hz.back k) ?_⟩
        conv => whnf
        refine ⟨by omega, m_plain hC ?_⟩
        conv => whnf
        exact hK M' f
      · rw [if_neg hx] at hK
        refine ⟨fun _ => ?_, fun z => absurd rfl z⟩
        refine b_X8_farBy_110 hX ?_
        conv => whnf
        refine b_X8_farBy_112 hX ?_
        conv => whnf
        exact hK M' f
    | succ m ih =>
      intro k x o M' hkn g f hx
      have hP : nP (backB b p dd w k) = nP b := nP_back k
      have b84 : ∀ (M2 : MT) (y : Int32) (o : Option Value), Wk (backB b p dd w (k + 1)) (-1) M2 → Fs M M2 → ((y = 1 ∧ passP b p dd w (k + 1)) ∨ (y = 0 ∧ ¬ passP b p dd w (k + 1))) → X 84 [some (.ref 61), some (.int (nI p)), some (.int dd), some (.int (nI n)), some (.int pace), some (.int (nI w)), some (.int x), some (.int (nI k)), o] [.int y] M2 := by
        intro M2 y o g2 f2 hy
        refine b_X8_farBy_84 hX ?_
        conv => whnf
        rw [nI_1]
        exact ih (k + 1) y o M2 (by omega) g2 f2 hy
      have b54 : ∀ (v : Int32) (b1 : BV), (v = b1 (26 + p)) → (∀ k', k' ≠ 26 + p → b1 k' = backB b p dd w k k') → backB b p dd w (k + 1) = playS (-1) b1 → X 54 [some (.ref 61), some (.int (nI p)), some (.int dd), some (.int (nI n)), some (.int pace), some (.int (nI w)), some (.int x), some (.int (nI k)), some (.int (meanS (backB b p dd w k)))] [.int v, .int (nI p), .ref 69] M' := by
        intro v b1 hv hb1 hb2
        have g1 : Wk b1 (-1) (wr M' 69 p v) := g.paces (fun q a => by rw [wr_off a]) (fun i hi => by
          by_cases z : i = p
          · subst z; rw [wr_at, hv]
          · rw [wr_ne z, hb1 _ (by omega)]; exact (g.2.2.2.2.1 i hi).2.2) (fun k' hk' => hb1 k' (by omega))
        have f1 : Fs M (wr M' 69 p v) := Fs.sw f (by decide) (by decide)
        have hP1 : nP b1 = nP b := by unfold nP; rw [hb1 5 (by omega)]; exact hP
        have hz0 : SZb (backB b p dd w k) := hz.back k
        have hz1 : SZb b1 := by
          unfold SZb nP nB nX at hz0 ⊢
          rw [hb1 5 (by omega), hb1 4 (by omega), hb1 6 (by omega)]
          exact hz0
        have hk1 : kindsOK b1 := fun i hi => by
          rw [hP1] at hi
          rw [hb1 _ (by omega)]
          exact hk.back p5 k i (by rw [hP]; exact hi)
        refine b_X8_farBy_54 hX ?_
        conv => whnf
        refine ⟨p, rfl, by omega, ?_⟩
        conv => whnf
        refine ⟨by omega, m_plays hC (by omega) g1 hz1 hk1 (fun M2 g2 f2 => ?_)⟩
        rw [← hb2] at g2
        conv => whnf
        rcases hx with ⟨rfl, hx⟩ | ⟨rfl, hx⟩
        · refine ⟨fun z => absurd z (by decide), fun _ => ?_⟩
          conv => whnf
          refine ⟨by omega, m_mean hC g2 (hz.back (k + 1)) ?_⟩
          conv => whnf
          refine ⟨by omega, m_plain hC ?_⟩
          conv => whnf
          refine ⟨fun q => ?_, fun q => ?_⟩
          · refine b_X8_farBy_83 hX ?_
            conv => whnf
            exact b84 M2 0 _ g2 (f1.tr f2) (Or.inr ⟨rfl, fun z => absurd q (Int32.not_lt.mpr (passP_succ.mp z).2)⟩)
          · conv => whnf
            rw [nI_1]
            exact ih (k + 1) 1 _ M2 (by omega) g2 (f1.tr f2) (Or.inl ⟨rfl, passP_succ.mpr ⟨hx, Int32.not_lt.mp q⟩⟩)
        · refine ⟨fun _ => ?_, fun z => absurd rfl z⟩
          refine b_X8_farBy_83 hX ?_
          conv => whnf
          exact b84 M2 0 _ g2 (f1.tr f2) (Or.inr ⟨rfl, fun z => hx (passP_succ.mp z).1⟩)
      refine b_X8_farBy_10 hX ?_
      conv => whnf
      refine ⟨fun q => absurd q (nI_ge (by omega) (by omega)), fun q => ?_⟩
      conv => whnf
      refine ⟨by omega, m_mean hC g (hz.back k) ?_⟩
      conv => whnf
      have ep : M' 69 p = backB b p dd w k (26 + p) := (g.2.2.2.2.1 p (by omega)).2.2
      refine ⟨fun q => ?_, fun q => ?_⟩
      · have hkw : ¬ k = w := fun z => q (by rw [z])
        refine b_X8_farBy_48 hX ?_
        conv => whnf
        refine ⟨p, rfl, by omega, ?_⟩
        conv => whnf
        exact b54 _ (backB b p dd w k) ep (fun _ _ => rfl) (by show playS _ _ = _; rw [if_neg hkw])
      · have hkw : k = w := (eq_nI (by omega) (by omega)).mp q
        conv => whnf
        refine ⟨p, rfl, by omega, ?_⟩
        conv => whnf
        refine ⟨by omega, m_bound hC ?_⟩
        conv => whnf
        rw [ep]
        exact b54 _ (setB (backB b p dd w k) (26 + p) (boundS (backB b p dd w k (26 + p) - dd))) setB_at.symm (fun k' hk' => setB_ne hk') (by show playS _ _ = _; rw [if_pos hkw])
  refine b_X8_farBy_0 hX ?_
  conv => whnf
  refine ⟨by omega, m_layNow (b := b) hC hb (fun M1 g1 f1 => ?_)⟩
  conv => whnf
  exact loop n 0 1 none M1 (by omega) g1 f1 (Or.inl ⟨rfl, fun k hk => absurd hk (by omega)⟩)
theorem mo_back {C : CC} (hC : Clo C) {d : Nat} (hd : 8 ≤ d) {σ M : MT} {K : KT} {p dd n pace : Int32} (hA : AM σ M) (hW : WF σ) (hK : ∀ M1, AM σ M1 → Fm M M1 61 75 → K (some (.int (backQ σ p dd n pace))) M1) : C d 179 [.ref 61, .int p, .int dd, .int n, .int pace] M K := by
  obtain ⟨pe, p5, pw, p0⟩ := hW.pl
  have hb : ∀ k, k < 61 → M 62 k = σ 5 k := fun k hk => (hA.2.2.2.2.1 k hk).1
  have e5 : M 62 5 = nI (nP (σ 5)) := (hb 5 (by omega)).trans pe
  replace hK : ∀ M1, Fs M M1 → K (some (.int (backQ σ p dd n pace))) M1 := fun M1 f => hK M1 (hA.scr f) f.fm
  unfold backQ at hK
  refine g_X8_back hC (fun X hX => ?_)
  have bB : ¬ (isPl (nP (σ 5)) p ∧ (1 ≤ dd ∧ dd ≤ 99) ∧ (1 ≤ n ∧ n ≤ 40) ∧ (300 ≤ pace ∧ pace ≤ 2500)) → X 47 [some (.ref 61), some (.int p), some (.int dd), some (.int n), some (.int pace), none, none, none, none] [] M := fun q => by
    rw [pit_neg q] at hK
    refine b_X8_back_47 hX ?_
    conv => whnf
    exact hK M Fs.rf
  refine b_X8_back_0 hX ?_
  conv => whnf
  refine ⟨by omega, m_isPlayer hC (by omega) e5 p5 (fun i0 h0 e0 => ?_) (fun q => ?_)⟩
  rotate_left
  · conv => whnf
    exact ⟨fun _ => bB (fun z => q z.1), fun z => absurd rfl z⟩
  conv => whnf
  refine ⟨fun q => absurd q (by decide), fun _ => ?_⟩
  conv => whnf
  refine ⟨by omega, m_in hC (fun a1 b1 => ?_) (fun q => ?_)⟩
  rotate_left
  · conv => whnf
    exact ⟨fun _ => bB (fun z => q z.2.1), fun z => absurd rfl z⟩
  conv => whnf
  refine ⟨fun q => absurd q (by decide), fun _ => ?_⟩
  conv => whnf
  refine ⟨by omega, m_in hC (fun a2 b2 => ?_) (fun q => ?_)⟩
  rotate_left
  · conv => whnf
    exact ⟨fun _ => bB (fun z => q z.2.2.1), fun z => absurd rfl z⟩
  conv => whnf
  refine ⟨fun q => absurd q (by decide), fun _ => ?_⟩
  conv => whnf
  refine ⟨by omega, m_in hC (fun a3 b3 => ?_) (fun q => ?_)⟩
  rotate_left
  · conv => whnf
    exact ⟨fun z => absurd rfl z, fun _ => bB (fun z => q z.2.2.2)⟩
  conv => whnf
  refine ⟨fun _ => ?_, fun z => absurd z (by decide)⟩
  have ok : isPl (nP (σ 5)) p ∧ (1 ≤ dd ∧ dd ≤ 99) ∧ (1 ≤ n ∧ n ≤ 40) ∧ (300 ≤ pace ∧ pace ≤ 2500) := ⟨⟨i0, h0, e0⟩, ⟨a1, b1⟩, ⟨a2, b2⟩, ⟨a3, b3⟩⟩
  rw [pit_pos ok] at hK
  refine b_X8_back_50 hX ?_
  conv => whnf
  subst e0
  have hw := pw (by omega)
  have hz := hw.1
  obtain ⟨n, -, hn, rfl⟩ := rngL (lo := 1) (hi := 40) (by omega) a2 b2 (by omega)
  rw [tN_nI (by omega), tN_nI (by omega)] at hK
  obtain ⟨kk, k1, k2, k3⟩ := hw.kinds i0 h0
  refine ⟨21 + i0, (by simp only [lit_nI, nI_add, nI_mul]), by omega, ?_⟩
  conv => whnf
  rw [hb _ (by omega), k3]
  have hof : isOfS (nI kk) 4 ↔ 4 ≤ kk := by
    have : kk = 1 ∨ kk = 2 ∨ kk = 3 ∨ kk = 4 ∨ kk = 5 := by omega
    unfold isOfS
    rcases this with rfl | rfl | rfl | rfl | rfl <;> decide
  rw [k3] at hK
  refine ⟨fun q => ?_, fun q => ?_⟩
  rotate_left
  · rw [pit_neg (fun z => q ((le_nI (a := 4) (by omega) (by omega)).mpr (hof.mp z)))] at hK
    conv => whnf
    exact hK M Fs.rf
  rw [pit_pos (hof.mpr ((le_nI (a := 4) (by omega) (by omega)).mp q))] at hK
  unfold backR at hK
  have b126 : ∀ (k : Nat) (M' : MT) (x y v : Int32), X 77 [some (.ref 61), some (.int (nI i0)), some (.int dd), some (.int (nI n)), some (.int pace), some (.int x), some (.int v), some (.int (nI (k + 1))), some (.int y)] [] M' → ∀ w, X 126 [some (.ref 61), some (.int (nI i0)), some (.int dd), some (.int (nI n)), some (.int pace), some (.int x), some (.int w), some (.int (nI k)), some (.int y)] [.int v] M' := by
    intro k M' x y v hh w
    refine b_X8_back_126 hX ?_
    conv => whnf
    rw [nI_1]
    exact hh
  have loop : ∀ (m k : Nat) (o : Option Value) (M' : MT), k + m = n → Fs M M' → X 77 [some (.ref 61), some (.int (nI i0)), some (.int dd), some (.int (nI n)), some (.int pace), some (.int (bestS (offB (σ 5) i0 dd n pace) (fun k => nI k) k).1), some (.int (bestS (offB (σ 5) i0 dd n pace) (fun k => nI k) k).2), some (.int (nI k)), o] [] M' := by
    intro m
    induction m with
    | zero =>
      intro k o M' hk f
      rw [Nat.add_zero] at hk
      subst hk
      refine b_X8_back_77 hX ?_
      conv => whnf
      refine ⟨fun q => ?_, fun q => absurd (nI_le (by omega) (by omega)) q⟩
      refine b_X8_back_134 hX ?_
      conv => whnf
      exact hK M' f
    | succ m ih =>
      intro k o M' hk f
      refine b_X8_back_77 hX ?_
      conv => whnf
      refine ⟨fun q => absurd q (nI_ge (by omega) (by omega)), fun q => ?_⟩
      conv => whnf
      refine ⟨by omega, m_farBy (b := σ 5) hC (by omega) (fun k hk => by rw [Wk.f62 f]; exact hb k hk) hz hw.kinds h0 hn (by omega) (fun M5 f5 => ?_)⟩
      conv => whnf
      have hn5 := fun o => ih (k + 1) o M5 (by omega) (f.tr f5)
      by_cases z : offB (σ 5) i0 dd n pace k < (bestS (offB (σ 5) i0 dd n pace) (fun k => nI k) k).2
      · rw [show bestS (offB (σ 5) i0 dd n pace) (fun k => nI k) (k + 1) = (nI k, offB (σ 5) i0 dd n pace k) from if_pos z] at hn5
        refine ⟨fun q => absurd z (Int32.not_lt.mpr q), fun _ => ?_⟩
        conv => whnf
        refine b_X8_back_110 hX ?_
        conv => whnf
        refine ⟨fun q => absurd z (Int32.not_lt.mpr q), fun _ => ?_⟩
        conv => whnf
        rw [nI_1]
        exact hn5 _
      · rw [show bestS (offB (σ 5) i0 dd n pace) (fun k => nI k) (k + 1) = _ from if_neg z] at hn5
        refine ⟨fun _ => ?_, fun q => absurd (Int32.not_lt.mp z) q⟩
        refine b_X8_back_108 hX ?_
        conv => whnf
        refine b_X8_back_110 hX ?_
        conv => whnf
        refine ⟨fun _ => ?_, fun q => absurd (Int32.not_lt.mp z) q⟩
        refine b_X8_back_124 hX ?_
        conv => whnf
        refine b126 k M5 _ _ _ ?_ _
        exact hn5 _
  refine b_X8_back_66 hX ?_
  conv => whnf
  exact loop n 0 none M (by omega) Fs.rf
theorem kindsOK.draw {s : Int64 × BV} (h : kindsOK s.2) (h5 : nP s.2 ≤ 5) : ∀ n, kindsOK (drawS s n).2 := by
  intro n
  induction n with
  | zero => exact h
  | succ n ih => exact ih.set (by rw [draw_P]; exact h5) (by omega)
theorem kindsOK.night {b : BV} {seed : Int32} (h : kindsOK b) (h5 : nP b ≤ 5) : ∀ k, kindsOK (nightS b seed k).2.1 := by
  intro k
  induction k with
  | zero => exact h
  | succ k ih =>
    rw [night_band]
    exact (kindsOK.draw (s := ((nightS b seed k).1, (nightS b seed k).2.1)) ih (by rw [night_P]; exact h5) _).play (by rw [draw_P, night_P]; exact h5)
theorem mo_night {C : CC} (hC : Clo C) {d : Nat} (hd : 8 ≤ d) {σ M : MT} {K : KT} {n seed what : Int32} (hA : AM σ M) (hW : WF σ) (hK : ∀ M1, AM σ M1 → Fm M M1 61 75 → K (some (.int (nightR σ n seed what))) M1) : C d 185 [.ref 61, .int n, .int seed, .int what] M K := by
  obtain ⟨pe, p5, pw, p0⟩ := hW.pl
  have hb : ∀ k, k < 61 → M 62 k = σ 5 k := fun k hk => (hA.2.2.2.2.1 k hk).1
  have e5 : M 62 5 = nI (nP (σ 5)) := (hb 5 (by omega)).trans pe
  replace hK : ∀ M1, Fs M M1 → K (some (.int (nightR σ n seed what))) M1 := fun M1 f => hK M1 (hA.scr f) f.fm
  unfold nightR at hK
  refine g_X8_night hC (fun X hX => ?_)
  refine b_X8_night_0 hX ?_
  conv => whnf
  refine ⟨by omega, m_none hC hA hW (fun hP => ?_) (fun hP => ?_)⟩
  · rw [pit_pos hP] at hK
    conv => whnf
    refine ⟨fun q => absurd q (by decide), fun _ => ?_⟩
    conv => whnf
    exact hK M Fs.rf
  have hw := pw hP
  have hz := hw.1
  have hP0 : ¬ nP (σ 5) = 0 := by omega
  rw [pit_neg hP0] at hK
  conv => whnf
  refine ⟨fun _ => ?_, fun z => absurd rfl z⟩
  have bB : ¬ ((0 ≤ n ∧ n ≤ 100) ∧ (1 ≤ seed ∧ seed ≤ 999999) ∧ (0 ≤ what ∧ what ≤ 1)) → X 44 [some (.ref 61), some (.int n), some (.int seed), some (.int what), none, none, none, none, none, none] [] M := fun q => by
    rw [pit_neg q] at hK
    refine b_X8_night_44 hX ?_
    conv => whnf
    exact hK M Fs.rf
  refine b_X8_night_10 hX ?_
  conv => whnf
  refine ⟨by omega, m_in hC (fun a0 b0 => ?_) (fun q => ?_)⟩
  rotate_left
  · conv => whnf
    exact ⟨fun _ => bB (fun z => q z.1), fun z => absurd rfl z⟩
  conv => whnf
  refine ⟨fun q => absurd q (by decide), fun _ => ?_⟩
  conv => whnf
  refine ⟨by omega, m_in hC (fun a1 b1 => ?_) (fun q => ?_)⟩
  rotate_left
  · conv => whnf
    exact ⟨fun _ => bB (fun z => q z.2.1), fun z => absurd rfl z⟩
  conv => whnf
  refine ⟨fun q => absurd q (by decide), fun _ => ?_⟩
  conv => whnf
  refine ⟨by omega, m_in hC (fun a2 b2 => ?_) (fun q => ?_)⟩
  rotate_left
  · conv => whnf
    exact ⟨fun z => absurd rfl z, fun _ => bB (fun z => q z.2.2)⟩
  conv => whnf
  refine ⟨fun _ => ?_, fun z => absurd z (by decide)⟩
  have ok : (0 ≤ n ∧ n ≤ 100) ∧ (1 ≤ seed ∧ seed ≤ 999999) ∧ (0 ≤ what ∧ what ≤ 1) := ⟨⟨a0, b0⟩, ⟨a1, b1⟩, ⟨a2, b2⟩⟩
  rw [pit_pos ok] at hK
  refine b_X8_night_47 hX ?_
  conv => whnf
  obtain ⟨n, -, hn, rfl⟩ := rngL (lo := 0) (hi := 100) (by omega) a0 b0 (by omega)
  rw [tN_nI (by omega)] at hK
  have loop : ∀ (m k : Nat) (o1 o2 : Option Value) (M' : MT), k + m = n → Wk (nightS (σ 5) seed k).2.1 (-1) M' → Fs M M' → X 61 [some (.ref 61), some (.int (nI n)), some (.int seed), some (.int what), some (.long (nightS (σ 5) seed k).1), none, some (.int (nightS (σ 5) seed k).2.2), some (.int (nI k)), o1, o2] [] M' := by
    intro m
    induction m with
    | zero =>
      intro k o1 o2 M' hk g f
      rw [Nat.add_zero] at hk
      subst hk
      refine b_X8_night_61 hX ?_
      conv => whnf
      refine ⟨fun q => ?_, fun q => absurd (nI_le (by omega) (by omega)) q⟩
      refine b_X8_night_167 hX ?_
      conv => whnf
      refine ⟨fun w0 => ?_, fun w0 => ?_⟩
      · rw [pit_neg w0] at hK
        refine b_X8_night_178 hX ?_
        conv => whnf
        refine b_X8_night_180 hX ?_
        conv => whnf
        exact hK M' f
      · rw [pit_pos w0] at hK
        conv => whnf
        refine ⟨by omega, m_mean hC g (night_Z hz k) ?_⟩
        conv => whnf
        exact hK M' f
    | succ m ih =>
      intro k o1 o2 M' hk g f
      have eP : nP (nightS (σ 5) seed k).2.1 = nP (σ 5) := night_P k
      have hz0 : SZb (nightS (σ 5) seed k).2.1 := night_Z hz k
      have hk0 : kindsOK (nightS (σ 5) seed k).2.1 := hw.kinds.night p5 k
      refine b_X8_night_61 hX ?_
      conv => whnf
      refine ⟨fun q => absurd q (nI_ge (by omega) (by omega)), fun q => ?_⟩
      conv => whnf
      refine ⟨by omega, m_mean hC g hz0 ?_⟩
      conv => whnf
      have b158 : ∀ (M2 : MT) (y : Int32) (o : Option Value), Wk (nightS (σ 5) seed (k + 1)).2.1 (-1) M2 → Fs M M2 → (nightS (σ 5) seed (k + 1)).2.2 = (nightS (σ 5) seed k).2.2 + y → X 158 [some (.ref 61), some (.int (nI n)), some (.int seed), some (.int what), some (.long (nightS (σ 5) seed (k + 1)).1), none, some (.int (nightS (σ 5) seed k).2.2), some (.int (nI k)), some (.int (meanS (nightS (σ 5) seed k).2.1)), o] [.int y, .int (nightS (σ 5) seed k).2.2] M2 := by
        intro M2 y o g2 f2 hy
        refine b_X8_night_158 hX ?_
        conv => whnf
        rw [nI_1, ← hy]
        exact ih (k + 1) _ _ M2 (by omega) g2 f2
      have inner : ∀ (j p : Nat) (M2 : MT), p + j = nP (σ 5) → Wk (drawS ((nightS (σ 5) seed k).1, (nightS (σ 5) seed k).2.1) p).2 (-1) M2 → Fs M M2 → X 76 [some (.ref 61), some (.int (nI n)), some (.int seed), some (.int what), some (.long (drawS ((nightS (σ 5) seed k).1, (nightS (σ 5) seed k).2.1) p).1), none, some (.int (nightS (σ 5) seed k).2.2), some (.int (nI k)), some (.int (meanS (nightS (σ 5) seed k).2.1)), some (.int (nI p))] [] M2 := by
        intro j
        induction j with
        | zero =>
          intro p M2 hp g2 f2
          rw [Nat.add_zero] at hp
          subst hp
          refine b_X8_night_76 hX ?_
          conv => whnf
          refine ⟨5, rfl, by decide, ?_⟩
          conv => whnf
          rw [Wk.f62 f2, e5]
          refine ⟨fun q => ?_, fun q => absurd (nI_le (by omega) (by omega)) q⟩
          refine b_X8_night_132 hX ?_
          conv => whnf
          refine ⟨by omega, m_plays hC (by omega) g2 (draw_Z (s := ((nightS (σ 5) seed k).1, (nightS (σ 5) seed k).2.1)) hz0 _) (kindsOK.draw (s := ((nightS (σ 5) seed k).1, (nightS (σ 5) seed k).2.1)) hk0 (by rw [eP]; exact p5) _) (fun M3 g3 f3 => ?_)⟩
          rw [← night_band] at g3
          conv => whnf
          refine ⟨by omega, m_mean hC g3 (night_Z hz (k + 1)) ?_⟩
          conv => whnf
          refine ⟨by omega, m_plain hC ?_⟩
          conv => whnf
          rw [← night_x]
          refine ⟨fun q => ?_, fun q => ?_⟩
          · refine b_X8_night_157 hX ?_
            conv => whnf
            exact b158 M3 0 _ g3 (f2.tr f3) (by rw [night_far, if_neg (Int32.not_lt.mpr q), Int32.add_zero])
          · conv => whnf
            have hy : (nightS (σ 5) seed (k + 1)).2.2 = (nightS (σ 5) seed k).2.2 + 1 := by rw [night_far, if_pos (Int32.not_le.mp q)]
            rw [nI_1, ← hy]
            exact ih (k + 1) _ _ M3 (by omega) g3 (f2.tr f3)
        | succ j jh =>
          intro p M2 hp g2 f2
          refine b_X8_night_76 hX ?_
          conv => whnf
          refine ⟨5, rfl, by decide, ?_⟩
          conv => whnf
          rw [Wk.f62 f2, e5]
          refine ⟨fun q => absurd q (nI_ge (by omega) (by omega)), fun q => ?_⟩
          conv => whnf
          refine ⟨by decide, ?_⟩
          conv => whnf
          refine ⟨p, rfl, by omega, ?_⟩
          conv => whnf
          refine ⟨by decide, ?_⟩
          conv => whnf
          refine ⟨by omega, m_bound hC ?_⟩
          conv => whnf
          refine ⟨p, rfl, by omega, ?_⟩
          conv => whnf
          rw [nI_1, (g2.2.2.2.2.1 p (by omega)).2.2]
          exact jh (p + 1) _ (by omega) (g2.pace (by omega)) (Fs.sw f2 (by decide) (by decide))
      exact inner (nP (σ 5)) 0 M' (by omega) g f
  refine ⟨by omega, m_layNow (b := σ 5) hC hb (fun M1 g1 f1 => ?_)⟩
  conv => whnf
  exact loop n 0 none none M1 (by omega) g1 f1
