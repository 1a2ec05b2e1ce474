/-! THE REFERENCE: acts -/
theorem WF.none {σ : MT} (h : WF σ) : (σ 5 8 = 0 ↔ nP (σ 5) = 0) := by
  obtain ⟨pe, p5, pw, p0⟩ := h.pl
  constructor
  · intro z
    rcases Nat.eq_zero_or_pos (nP (σ 5)) with e | e
    · exact e
    · have := (pw e).2.1
      rw [z] at this
      exact absurd this (by decide)
  · intro z; exact p0 z 8 (by omega)
theorem m_none {C : CC} (hC : Clo C) {d : Nat} {σ M : MT} {K : KT} (hA : AM σ M) (hW : WF σ) (h1 : nP (σ 5) = 0 → K (some (.int 1)) M) (h0 : 0 < nP (σ 5) → K (some (.int 0)) M) : C d 159 [.ref 61] M K := by
  have e8 : M 62 8 = σ 5 8 := (hA.2.2.2.2.1 8 (by omega)).1
  refine m_isNone hC (fun q => h1 (hW.none.mp (by rw [← e8]; exact q))) (fun q => h0 ?_)
  rcases Nat.eq_zero_or_pos (nP (σ 5)) with e | e
  · exact absurd (e8.trans (hW.none.mpr e)) q
  · exact e
theorem AM.now {σ M M' : MT} {b : BV} (h : AM σ M) (g1 : ∀ q, q ≠ 61 → q ≠ 62 → (q < 69 ∨ 74 < q) → M' q = M q) (g2 : ∀ k, k ≠ 21 → k ≠ 22 → M' 61 k = M 61 k) (g3 : ∀ k, 61 ≤ k → M' 62 k = M 62 k) (g4 : ∀ k, k < 61 → M' 62 k = b k) : AM (sr σ 5 b) M' := by
  obtain ⟨⟨h1, h2⟩, ⟨h3, h3'⟩, ⟨h4, h5⟩, ⟨h6, h7⟩, h8, ⟨h9, h10⟩, h11, h12⟩ := h
  refine ⟨⟨fun i hi => ?_, fun i hi => ?_⟩, ⟨?_, ?_⟩, ⟨?_, fun i hi => ?_⟩, ⟨?_, fun i k hi hk => ?_⟩, fun k hk => ?_, ⟨?_, fun i hi => ?_⟩, ?_, ?_⟩
  · rw [g1 64 (by omega) (by omega) (by omega), g1 65 (by omega) (by omega) (by omega), sr_ne (by omega), sr_ne (by omega)]; exact h1 i hi
  · rw [g1 66 (by omega) (by omega) (by omega), sr_ne (by omega)]; exact h2 i hi
  · rw [g2 7 (by omega) (by omega), sr_ne (by omega)]; exact h3
  · rw [g2 10 (by omega) (by omega), sr_ne (by omega)]; exact h3'
  · rw [g2 9 (by omega) (by omega), sr_ne (by omega)]; exact h4
  · rw [g1 68 (by omega) (by omega) (by omega), sr_ne (by omega)]; exact h5 i hi
  · rw [g2 1 (by omega) (by omega), sr_ne (by omega)]; exact h6
  · rw [nA_now] at hi
    rw [g3 _ (by omega), sr_ne (by omega)]; exact h7 i k hi hk
  · rw [g4 k hk, g3 _ (by omega), g3 _ (by omega), sr_at, sr_ne (by omega), sr_ne (by omega)]; exact ⟨rfl, (h8 k hk).2⟩
  · rw [g2 25 (by omega) (by omega), sr_ne (by omega)]; exact h9
  · rw [g1 75 (by omega) (by omega) (by omega), sr_ne (by omega)]; exact h10 i hi
  · rw [g1 63 (by omega) (by omega) (by omega), sr_ne (by omega)]; exact h11
  · rw [g1 63 (by omega) (by omega) (by omega), sr_ne (by omega)]; exact h12
theorem m_minds {C : CC} (hC : Clo C) {d : Nat} {σ M : MT} {K : KT} (hA : AM σ M) (hW : WF σ) (hK : ∀ M', AM (pushA σ) M' → Fm M M' 61 62 → K none M') : C d 156 [.ref 61] M K := by
  have h24 := hW.2.2.1.2
  have hnp := pushA_n hW
  obtain ⟨a1, a2, a3, ⟨r1, r2⟩, a5, a6, a7⟩ := hA
  have r1' : M 61 1 = nI (nA σ) := r1.trans hW.2.2.1.1
  refine g_X8_minds hC (fun X hX => ?_)
  -- the copy of what is, behind n acts
  have tail : ∀ (n : Nat) (M0 : MT), n < 24 → M0 61 1 = nI n → (∀ q, q ≠ 61 → q ≠ 62 → M0 q = M q) → (∀ k, k ≠ 1 → M0 61 k = M 61 k) → (∀ k, k < 244 → M0 62 k = M 62 k) → n + 1 = nA (pushA σ) → (∀ i k, i < n → k < 61 → M0 62 (244 + (61 * i + k)) = pushA σ (10 + i) k) → pushA σ (10 + n) = σ 5 → ∀ (o : Option Value), X 57 [some (.ref 61), o] [] M0 := by
    intro n M0 hn hc f1 f2 f3 hn2 f4 f5 o
    have loop : ∀ (m k : Nat) (M' : MT), k + m = 61 → (∀ q, q ≠ 62 → M' q = M0 q) → (∀ j, M' 62 j = if 244 + 61 * n ≤ j ∧ j < 244 + 61 * n + k then M 62 (j - (244 + 61 * n)) else M0 62 j) → X 59 [some (.ref 61), some (.int (nI k))] [] M' := by
      intro m
      induction m with
      | zero =>
        intro k M' hk g1 g2
        have hk : k = 61 := by omega
        subst hk
        refine b_X8_minds_59 hX ?_
        conv => whnf
        refine ⟨fun q => ?_, fun q => absurd (by decide) q⟩
        refine b_X8_minds_95 hX ?_
        conv => whnf
        rw [g1 61 (by decide), hc, nI_1]
        have e62 : wr M' 61 1 (nI (n + 1)) 62 = M' 62 := wr_off (by decide)
        refine hK _ ⟨⟨fun i hi => ?_, fun i hi => ?_⟩, ⟨?_, ?_⟩, ⟨?_, fun i hi => ?_⟩, ⟨?_, fun i k hi hk => ?_⟩, fun k hk => ?_, ⟨?_, fun i hi => ?_⟩, ?_, ?_⟩ (fun q hq => ?_)
        · rw [wr_off (by decide), wr_off (by decide), g1 64 (by decide), g1 65 (by decide), f1 64 (by decide) (by decide), f1 65 (by decide) (by decide), pushA_lo (by omega) (by omega), pushA_lo (by omega) (by omega)]; exact a1.1 i hi
        · rw [wr_off (by decide), g1 66 (by decide), f1 66 (by decide) (by decide), pushA_lo (by omega) (by omega)]; exact a1.2 i hi
        · rw [wr_ne (by decide), g1 61 (by decide), f2 7 (by decide), pushA_3 (by omega)]; exact a2.1
        · rw [wr_ne (by decide), g1 61 (by decide), f2 10 (by decide), pushA_3 (by omega)]; exact a2.2
        · rw [wr_ne (by decide), g1 61 (by decide), f2 9 (by decide), pushA_3 (by omega)]; exact a3.1
        · rw [wr_off (by decide), g1 68 (by decide), f1 68 (by decide) (by decide), pushA_lo (by omega) (by omega)]; exact a3.2 i hi
        · rw [wr_at, hnp.2, hn2]
        · rw [e62, g2]
          by_cases e : i = n
          · subst e
            rw [if_pos (by omega), f5, show 244 + (61 * i + k) - (244 + 61 * i) = k by omega]
            exact (a5 k hk).1
          · rw [if_neg (by omega)]
            exact f4 i k (by omega) hk
        · rw [e62, g2, g2, g2, if_neg (by omega), if_neg (by omega), if_neg (by omega), f3 _ (by omega), f3 _ (by omega), f3 _ (by omega), pushA_lo (by omega) (by omega), pushA_lo (by omega) (by omega), pushA_lo (by omega) (by omega)]; exact a5 k hk
        · rw [wr_ne (by decide), g1 61 (by decide), f2 25 (by decide), pushA_3 (by omega)]; exact a6.1
        · rw [wr_off (by decide), g1 75 (by decide), f1 75 (by decide) (by decide), pushA_lo (by omega) (by omega)]; exact a6.2 i hi
        · rw [wr_off (by decide), g1 63 (by decide), f1 63 (by decide) (by decide), pushA_3 (by omega)]; exact a7.1
        · rw [wr_off (by decide), g1 63 (by decide), f1 63 (by decide) (by decide), pushA_3 (by omega)]; exact a7.2
        · rw [wr_off (by omega), g1 q (by omega), f1 q (by omega) (by omega)]
      | succ m ih =>
        intro k M' hk g1 g2
        refine b_X8_minds_59 hX ?_
        conv => whnf
        refine ⟨fun q => absurd ((le_nI (a := 61) (by omega) (by omega)).mp q) (by omega), fun q => ?_⟩
        conv => whnf
        refine ⟨k, rfl, by omega, ?_⟩
        conv => whnf
        rw [g1 61 (by decide), hc]
        refine ⟨244 + 61 * n + k, (by simp only [lit_nI, nI_add, nI_mul]), by omega, ?_⟩
        conv => whnf
        rw [nI_1, g2 k, if_neg (by omega), f3 k (by omega)]
        refine ih (k + 1) _ (by omega) (fun q z => by rw [wr_off z]; exact g1 q z) (fun j => ?_)
        by_cases e : j = 244 + 61 * n + k
        · subst e; rw [wr_at, if_pos (by omega)]; congr 1; omega
        · rw [wr_ne e, g2 j]
          by_cases e2 : 244 + 61 * n ≤ j ∧ j < 244 + 61 * n + k
          · rw [if_pos e2, if_pos (by omega)]
          · rw [if_neg e2, if_neg (by omega)]
    refine b_X8_minds_57 hX ?_
    conv => whnf
    exact loop 61 0 M0 (by omega) (fun _ _ => rfl) (fun j => by rw [if_neg (by omega)])
  refine b_X8_minds_0 hX ?_
  conv => whnf
  rw [r1']
  refine ⟨fun q => ?_, fun q => ?_⟩
  · have hn : nA σ < 24 := by
      have : nA σ ≠ 24 := fun z => q (by rw [z]; rfl)
      omega
    refine tail (nA σ) M hn r1' (fun _ _ _ => rfl) (fun _ _ => rfl) (fun _ _ => rfl) (by rw [hnp.1, if_pos hn]) (fun i k hi hk => ?_) ?_ _
    · rcases pushA_at (σ := σ) (i := i) (by rw [hnp.1, if_pos hn]; omega) hW with ⟨-, ⟨a, e⟩ | ⟨a, e⟩⟩ | ⟨a0, -⟩
      · rw [e]; exact r2 i k hi hk
      · omega
      · omega
    · rcases pushA_at (σ := σ) (i := nA σ) (by rw [hnp.1, if_pos hn]; omega) hW with ⟨-, ⟨a, e⟩ | ⟨a, e⟩⟩ | ⟨a0, -⟩
      · omega
      · exact e
      · omega
  · have hn : nA σ = 24 := (eq_nI (b := 24) (by omega) (by omega)).mp q
    have loop : ∀ (m k : Nat) (M' : MT), k + m = 1403 → (∀ q, q ≠ 62 → M' q = M q) → (∀ j, M' 62 j = if 244 ≤ j ∧ j < 244 + k then M 62 (j + 61) else M 62 j) → X 11 [some (.ref 61), some (.int (nI k))] [] M' := by
      intro m
      induction m with
      | zero =>
        intro k M' hk g1 g2
        have hk : k = 1403 := by omega
        subst hk
        refine b_X8_minds_11 hX ?_
        conv => whnf
        refine ⟨fun q => ?_, fun q => absurd (by decide) q⟩
        refine b_X8_minds_47 hX ?_
        conv => whnf
        rw [g1 61 (by decide), r1', hn]
        refine tail 23 _ (by omega) ?_ (fun q z1 z2 => by rw [wr_off z1]; exact g1 q z2) (fun k hk => by rw [wr_ne hk, g1 61 (by decide)]) (fun k hk => by rw [wr_off (by decide), g2, if_neg (by omega)]) (by rw [hnp.1, if_neg (by omega)]) (fun i k hi hk => ?_) ?_ _
        · rw [wr_at]; exact pk_sub (a := 24) (b := 1) (by omega)
        · rw [wr_off (by decide), g2, if_pos (by omega)]
          rcases pushA_at (σ := σ) (i := i) (by rw [hnp.1, if_neg (by omega)]; omega) hW with ⟨a0, -⟩ | ⟨-, ⟨a, e⟩ | ⟨a, e⟩⟩
          · omega
          · rw [e, show 244 + (61 * i + k) + 61 = 244 + (61 * (i + 1) + k) by omega]; exact r2 (i + 1) k (by omega) hk
          · omega
        · rcases pushA_at (σ := σ) (i := 23) (by rw [hnp.1, if_neg (by omega)]; omega) hW with ⟨a0, -⟩ | ⟨-, ⟨a, e⟩ | ⟨a, e⟩⟩
          · omega
          · omega
          · exact e
      | succ m ih =>
        intro k M' hk g1 g2
        refine b_X8_minds_11 hX ?_
        conv => whnf
        refine ⟨fun q => absurd ((le_nI (a := 1403) (by omega) (by omega)).mp q) (by omega), fun q => ?_⟩
        conv => whnf
        refine ⟨244 + k + 61, (by simp only [lit_nI, nI_add, nI_mul]), by omega, ?_⟩
        conv => whnf
        refine ⟨244 + k, (by simp only [lit_nI, nI_add, nI_mul]), by omega, ?_⟩
        conv => whnf
        rw [nI_1, g2 (244 + k + 61), if_neg (by omega)]
        refine ih (k + 1) _ (by omega) (fun q z => by rw [wr_off z]; exact g1 q z) (fun j => ?_)
        by_cases e : j = 244 + k
        · subst e; rw [wr_at, if_pos (by omega)]
        · rw [wr_ne e, g2 j]
          by_cases e2 : 244 ≤ j ∧ j < 244 + k
          · rw [if_pos e2, if_pos (by omega)]
          · rw [if_neg e2, if_neg (by omega)]
    conv => whnf
    exact loop 1403 0 M (by omega) (fun _ _ => rfl) (fun j => by rw [if_neg (by omega)])
theorem mo_undo {C : CC} (hC : Clo C) {d : Nat} (hd : 8 ≤ d) {σ M : MT} {K : KT} (hA : AM σ M) (hW : WF σ) (hK : ∀ M1, AM (undoR σ).2 M1 → Fm M M1 61 75 → K (some (.int (undoR σ).1)) M1) : C d 157 [.ref 61] M K := by
  have h24 := hW.2.2.1.2
  unfold undoR at hK
  obtain ⟨a1, a2, a3, ⟨r1, r2⟩, a5, a6, a7⟩ := hA
  have r1' : M 61 1 = nI (nA σ) := r1.trans hW.2.2.1.1
  refine g_X8_undo hC (fun X hX => ?_)
  refine b_X8_undo_0 hX ?_
  conv => whnf
  rw [r1']
  refine ⟨fun q => ?_, fun q => ?_⟩
  rotate_left
  · have hn : nA σ = 0 := by
      rcases Nat.eq_zero_or_pos (nA σ) with z | z
      · exact z
      · exact absurd q (nI_ne0 z (by omega))
    rw [pit_pos hn] at hK
    conv => whnf
    exact hK M ⟨a1, a2, a3, ⟨r1, r2⟩, a5, a6, a7⟩ Fm.rf
  have hn : 0 < nA σ := by
    rcases Nat.eq_zero_or_pos (nA σ) with z | z
    · exact absurd (by rw [z]; rfl) q
    · exact z
  rw [pit_neg (by omega)] at hK
  dsimp only at hK
  have nAp : nA (popA σ) = nA σ - 1 := by
    unfold nA popA
    rw [sr_ne (by decide), wr_at]
    exact nI_clamp (by omega)
  have q5 : ∀ q, q ≠ 3 → q ≠ 5 → popA σ q = σ q := fun q z1 z2 => by unfold popA; rw [sr_ne z2, wr_off z1]
  have q3 : ∀ k, k ≠ 3 → popA σ 3 k = σ 3 k := fun k z => by unfold popA; rw [sr_ne (by decide), wr_ne z]
  have q33 : popA σ 3 3 = nI (nA σ - 1) := by unfold popA; rw [sr_ne (by decide), wr_at]
  have q50 : popA σ 5 = σ (10 + (nA σ - 1)) := sr_at
  have e2 : nI (nA σ) - 1 = nI (nA σ - 1) := pk_sub (b := 1) hn
  have loop : ∀ (m k : Nat) (M' : MT), k + m = 61 → (∀ q, q ≠ 61 → q ≠ 62 → M' q = M q) → M' 61 1 = nI (nA σ - 1) → (∀ j, j ≠ 1 → M' 61 j = M 61 j) → (∀ j, M' 62 j = if j < k then σ (10 + (nA σ - 1)) j else M 62 j) → X 22 [some (.ref 61), some (.int (nI k))] [] M' := by
    intro m
    induction m with
    | zero =>
      intro k M' hk g1 g2 g3 g4
      have hk : k = 61 := by omega
      subst hk
      refine b_X8_undo_22 hX ?_
      conv => whnf
      refine ⟨fun q => ?_, fun q => absurd (by decide) q⟩
      refine b_X8_undo_58 hX ?_
      conv => whnf
      rw [g2]
      refine hK _ ⟨⟨fun i hi => ?_, fun i hi => ?_⟩, ⟨?_, ?_⟩, ⟨?_, fun i hi => ?_⟩, ⟨?_, fun i k hi hk => ?_⟩, fun k hk => ?_, ⟨?_, fun i hi => ?_⟩, ?_, ?_⟩ (fun q hq => g1 q (by omega) (by omega))
      · rw [g1 64 (by decide) (by decide), g1 65 (by decide) (by decide), q5 0 (by decide) (by decide), q5 1 (by decide) (by decide)]; exact a1.1 i hi
      · rw [g1 66 (by decide) (by decide), q5 2 (by decide) (by decide)]; exact a1.2 i hi
      · rw [g3 7 (by decide), q3 0 (by decide)]; exact a2.1
      · rw [g3 10 (by decide), q3 1 (by decide)]; exact a2.2
      · rw [g3 9 (by decide), q3 2 (by decide)]; exact a3.1
      · rw [g1 68 (by decide) (by decide), q5 4 (by decide) (by decide)]; exact a3.2 i hi
      · rw [g2, q33]
      · rw [nAp] at hi
        rw [g4, if_neg (by omega), q5 (10 + i) (by omega) (by omega)]; exact r2 i k (by omega) hk
      · rw [g4, g4, g4, if_pos hk, if_neg (by omega), if_neg (by omega), q50, q5 6 (by decide) (by decide), q5 7 (by decide) (by decide)]
        exact ⟨rfl, (a5 k hk).2⟩
      · rw [g3 25 (by decide), q3 4 (by decide)]; exact a6.1
      · rw [g1 75 (by decide) (by decide), q5 8 (by decide) (by decide)]; exact a6.2 i hi
      · rw [g1 63 (by decide) (by decide), q3 5 (by decide)]; exact a7.1
      · rw [g1 63 (by decide) (by decide), q3 6 (by decide)]; exact a7.2
    | succ m ih =>
      intro k M' hk g1 g2 g3 g4
      refine b_X8_undo_22 hX ?_
      conv => whnf
      refine ⟨fun q => absurd ((le_nI (a := 61) (by omega) (by omega)).mp q) (by omega), fun q => ?_⟩
      conv => whnf
      rw [g2]
      refine ⟨244 + 61 * (nA σ - 1) + k, (by simp only [lit_nI, nI_add, nI_mul]), by omega, ?_⟩
      conv => whnf
      refine ⟨k, rfl, by omega, ?_⟩
      conv => whnf
      rw [nI_1, g4, if_neg (by omega), show 244 + 61 * (nA σ - 1) + k = 244 + (61 * (nA σ - 1) + k) by omega, r2 (nA σ - 1) k (by omega) (by omega)]
      refine ih (k + 1) _ (by omega) (fun q z1 z2 => by rw [wr_off z2]; exact g1 q z1 z2) (by rw [wr_off (by decide)]; exact g2) (fun j hj => by rw [wr_off (by decide)]; exact g3 j hj) (fun j => ?_)
      by_cases e : j = k
      · subst e; rw [wr_at, if_pos (by omega)]
      · rw [wr_ne e, g4 j]
        by_cases e2 : j < k
        · rw [if_pos e2, if_pos (by omega)]
        · rw [if_neg e2, if_neg (by omega)]
  refine b_X8_undo_10 hX ?_
  conv => whnf
  rw [r1', e2]
  exact loop 61 0 _ (by omega) (fun q z1 z2 => wr_off z1) wr_at (fun j hj => wr_ne hj) (fun j => by rw [wr_off (by decide), if_neg (by omega)])
/-- a write into the band of the reference -/
theorem AM.put {σ M : MT} {b : BV} {k : Nat} {v : Int32} (h : AM σ M) (hb : σ 5 = b) (hk : k < 61) : AM (sr σ 5 (setB b k v)) (wr M 62 k v) := by
  subst hb
  refine h.now (fun q _ z _ => wr_off z) (fun j _ _ => by rw [wr_off (by decide)]) (fun j hj => wr_ne (by omega)) (fun j hj => ?_)
  by_cases e : j = k
  · subst e; rw [wr_at, setB_at]
  · rw [wr_ne e, setB_ne e]; exact (h.2.2.2.2.1 j hj).1
theorem mo_pace {C : CC} (hC : Clo C) {d : Nat} (hd : 8 ≤ d) {σ M : MT} {K : KT} {p v : Int32} (hA : AM σ M) (hW : WF σ) (hK : ∀ M1, AM (paceR σ p v).2 M1 → Fm M M1 61 75 → K (some (.int (paceR σ p v).1)) M1) : C d 161 [.ref 61, .int p, .int v] M K := by
  obtain ⟨pe, p5, pw, p0⟩ := hW.pl
  have e5 : M 62 5 = nI (nP (σ 5)) := (hA.2.2.2.2.1 5 (by omega)).1.trans pe
  unfold paceR at hK
  refine g_X8_pace hC (fun X hX => ?_)
  have bB : ¬ (isPl (nP (σ 5)) p ∧ (300 ≤ v ∧ v ≤ 2500)) → X 22 [some (.ref 61), some (.int p), some (.int v), none] [] M := fun q => by
    rw [pit_neg q] at hK
    refine b_X8_pace_22 hX ?_
    conv => whnf
    exact hK M hA Fm.rf
  refine b_X8_pace_0 hX ?_
  conv => whnf
  refine ⟨by omega, m_isPlayer hC (by omega) e5 p5 (fun i hi ei => ?_) (fun q => ?_)⟩
  rotate_left
  · conv => whnf
    exact ⟨fun _ => bB (fun z => q z.1), fun z => absurd rfl z⟩
  conv => whnf
  refine ⟨fun q => absurd q (by decide), fun _ => ?_⟩
  conv => whnf
  refine ⟨by omega, m_in hC (fun a0 b0 => ?_) (fun q => ?_)⟩
  rotate_left
  · conv => whnf
    exact ⟨fun z => absurd rfl z, fun _ => bB (fun z => q z.2)⟩
  rw [pit_pos ⟨⟨i, hi, ei⟩, a0, b0⟩] at hK
  subst ei
  rw [tN_nI (by omega)] at hK
  conv => whnf
  refine ⟨fun _ => ?_, fun z => absurd z (by decide)⟩
  refine b_X8_pace_25 hX ?_
  conv => whnf
  refine ⟨by omega, m_minds hC hA hW (fun M1 g1 g2 => ?_)⟩
  have e : pushA σ 5 = σ 5 := pushA_lo (by omega) (by omega)
  conv => whnf
  refine ⟨26 + i, (by simp only [lit_nI, nI_add, nI_mul]), by omega, ?_⟩
  conv => whnf
  refine ⟨26 + i, (by simp only [lit_nI, nI_add, nI_mul]), by omega, ?_⟩
  conv => whnf
  rw [(g1.2.2.2.2.1 (26 + i) (by omega)).1, e]
  exact hK _ (g1.put e (by omega)) ((g2.mono (by decide) (by decide)).tr (Fm.wr Fm.rf (by decide) (by decide)))
theorem mo_hears {C : CC} (hC : Clo C) {d : Nat} (hd : 8 ≤ d) {σ M : MT} {K : KT} {i j w : Int32} (hA : AM σ M) (hW : WF σ) (hK : ∀ M1, AM (hearsR σ i j w).2 M1 → Fm M M1 61 75 → K (some (.int (hearsR σ i j w).1)) M1) : C d 162 [.ref 61, .int i, .int j, .int w] M K := by
  obtain ⟨pe, p5, pw, p0⟩ := hW.pl
  have e5 : M 62 5 = nI (nP (σ 5)) := (hA.2.2.2.2.1 5 (by omega)).1.trans pe
  unfold hearsR at hK
  refine g_X8_hears hC (fun X hX => ?_)
  have bB : ¬ (canH (nP (σ 5)) i j ∧ (0 ≤ w ∧ w ≤ 9)) → X 33 [some (.ref 61), some (.int i), some (.int j), some (.int w), none] [] M := fun q => by
    rw [pit_neg q] at hK
    refine b_X8_hears_33 hX ?_
    conv => whnf
    exact hK M hA Fm.rf
  refine b_X8_hears_0 hX ?_
  conv => whnf
  refine ⟨by omega, m_isPlayer hC (by omega) e5 p5 (fun x hx ex => ?_) (fun q => ?_)⟩
  rotate_left
  · conv => whnf
    exact ⟨fun _ => bB (fun z => q z.1.1), fun z => absurd rfl z⟩
  conv => whnf
  refine ⟨fun q => absurd q (by decide), fun _ => ?_⟩
  conv => whnf
  refine ⟨by omega, m_isPlayer hC (by omega) e5 p5 (fun y hy ey => ?_) (fun q => ?_)⟩
  rotate_left
  · conv => whnf
    exact ⟨fun _ => bB (fun z => q z.1.2.1), fun z => absurd rfl z⟩
  conv => whnf
  refine ⟨fun q => absurd q (by decide), fun _ => ?_⟩
  conv => whnf
  refine ⟨fun q => bB (fun z => z.1.2.2 q), fun hne => ?_⟩
  conv => whnf
  refine ⟨by omega, m_in hC (fun a0 b0 => ?_) (fun q => ?_)⟩
  rotate_left
  · conv => whnf
    exact ⟨fun z => absurd rfl z, fun _ => bB (fun z => q z.2)⟩
  rw [pit_pos ⟨⟨⟨x, hx, ex⟩, ⟨y, hy, ey⟩, hne⟩, a0, b0⟩] at hK
  subst ex; subst ey
  rw [tN_nI (by omega), tN_nI (by omega)] at hK
  conv => whnf
  refine ⟨fun _ => ?_, fun z => absurd z (by decide)⟩
  refine b_X8_hears_36 hX ?_
  conv => whnf
  refine ⟨by omega, m_minds hC hA hW (fun M1 g1 g2 => ?_)⟩
  have e : pushA σ 5 = σ 5 := pushA_lo (by omega) (by omega)
  have ei : 36 + 5 * x + y = 36 + (5 * x + y) := by omega
  conv => whnf
  refine ⟨36 + (5 * x + y), by rw [← ei]; exact (by simp only [lit_nI, nI_add, nI_mul]), by omega, ?_⟩
  conv => whnf
  refine ⟨36 + (5 * x + y), by rw [← ei]; exact (by simp only [lit_nI, nI_add, nI_mul]), by omega, ?_⟩
  conv => whnf
  rw [(g1.2.2.2.2.1 (36 + (5 * x + y)) (by omega)).1, e]
  exact hK _ (g1.put e (by omega)) ((g2.mono (by decide) (by decide)).tr (Fm.wr Fm.rf (by decide) (by decide)))
theorem mo_click {C : CC} (hC : Clo C) {d : Nat} (hd : 8 ≤ d) {σ M : MT} {K : KT} {v : Int32} (hA : AM σ M) (hW : WF σ) (hK : ∀ M1, AM (clickR σ v).2 M1 → Fm M M1 61 75 → K (some (.int (clickR σ v).1)) M1) : C d 163 [.ref 61, .int v] M K := by
  unfold clickR at hK
  refine g_X8_click hC (fun X hX => ?_)
  refine b_X8_click_0 hX ?_
  conv => whnf
  refine ⟨by omega, m_none hC hA hW (fun hP => ?_) (fun hP => ?_)⟩
  · rw [pit_pos hP] at hK
    conv => whnf
    refine ⟨fun q => absurd q (by decide), fun _ => ?_⟩
    conv => whnf
    exact hK M hA Fm.rf
  rw [pit_neg (by omega)] at hK
  conv => whnf
  refine ⟨fun _ => ?_, fun z => absurd rfl z⟩
  refine b_X8_click_10 hX ?_
  conv => whnf
  refine ⟨by omega, m_in hC (fun a0 b0 => ?_) (fun q => ?_)⟩
  rotate_left
  · rw [pit_neg q] at hK
    conv => whnf
    refine ⟨fun z => absurd rfl z, fun _ => ?_⟩
    conv => whnf
    exact hK M hA Fm.rf
  rw [pit_pos ⟨a0, b0⟩] at hK
  conv => whnf
  refine ⟨fun _ => ?_, fun z => absurd z (by decide)⟩
  refine b_X8_click_27 hX ?_
  conv => whnf
  refine ⟨by omega, m_minds hC hA hW (fun M1 g1 g2 => ?_)⟩
  have e : pushA σ 5 = σ 5 := pushA_lo (by omega) (by omega)
  conv => whnf
  refine ⟨3, rfl, by decide, ?_⟩
  conv => whnf
  refine ⟨3, rfl, by decide, ?_⟩
  conv => whnf
  rw [(g1.2.2.2.2.1 3 (by omega)).1, e]
  exact hK _ (g1.put e (by omega)) ((g2.mono (by decide) (by decide)).tr (Fm.wr Fm.rf (by decide) (by decide)))
theorem mo_claps {C : CC} (hC : Clo C) {d : Nat} (hd : 8 ≤ d) {σ M : MT} {K : KT} {c : Int32} (hA : AM σ M) (hW : WF σ) (hK : ∀ M1, AM (clapsR σ c).2 M1 → Fm M M1 61 75 → K (some (.int (clapsR σ c).1)) M1) : C d 164 [.ref 61, .int c] M K := by
  obtain ⟨pe, p5, pw, p0⟩ := hW.pl
  unfold clapsR at hK
  refine g_X8_claps hC (fun X hX => ?_)
  refine b_X8_claps_0 hX ?_
  conv => whnf
  refine ⟨by omega, m_none hC hA hW (fun hP => ?_) (fun hP => ?_)⟩
  · rw [pit_pos hP] at hK
    conv => whnf
    refine ⟨fun q => absurd q (by decide), fun _ => ?_⟩
    conv => whnf
    exact hK M hA Fm.rf
  have hw := pw hP
  rw [pit_neg (by omega)] at hK
  conv => whnf
  refine ⟨fun _ => ?_, fun z => absurd rfl z⟩
  refine b_X8_claps_10 hX ?_
  conv => whnf
  refine ⟨by omega, m_in hC (fun a0 b0 => ?_) (fun q => ?_)⟩
  rotate_left
  · rw [pit_neg q] at hK
    conv => whnf
    refine ⟨fun z => absurd rfl z, fun _ => ?_⟩
    conv => whnf
    exact hK M hA Fm.rf
  rw [pit_pos ⟨a0, b0⟩] at hK
  conv => whnf
  refine ⟨fun _ => ?_, fun z => absurd z (by decide)⟩
  refine b_X8_claps_25 hX ?_
  conv => whnf
  refine ⟨by omega, m_minds hC hA hW (fun M1 g1 g2 => ?_)⟩
  have e : pushA σ 5 = σ 5 := pushA_lo (by omega) (by omega)
  have w62 : ∀ k, k < 61 → M1 62 k = σ 5 k := fun k hk => by rw [← e]; exact (g1.2.2.2.2.1 k hk).1
  have loop : ∀ (n j : Nat) (M' : MT), j + n = nP (σ 5) → (∀ q, q ≠ 62 → M' q = M1 q) → (∀ k, M' 62 k = if 26 ≤ k ∧ k < 26 + j then boundS (M1 62 k + c) else M1 62 k) → X 31 [some (.ref 61), some (.int c), some (.int (nI j))] [] M' := by
    intro n
    induction n with
    | zero =>
      intro j M' hj h1 h2
      rw [Nat.add_zero] at hj
      subst hj
      have hz1 : SZb (quickS (σ 5) c) := hw.1.quick
      have hA2 : AM (actA σ (quickS (σ 5) c)) M' := g1.now (fun q _ z _ => h1 q z) (fun k _ _ => by rw [h1 61 (by decide)]) (fun k hk => by rw [h2, if_neg (by omega)]) (fun k hk => by rw [h2, w62 k hk]; rfl)
      refine b_X8_claps_31 hX ?_
      conv => whnf
      refine ⟨5, rfl, by decide, ?_⟩
      conv => whnf
      rw [h2, if_neg (by omega), w62 5 (by omega), pe]
      refine ⟨fun q => ?_, fun q => absurd (nI_le (by omega) (by omega)) q⟩
      refine b_X8_claps_70 hX ?_
      conv => whnf
      refine ⟨by omega, m_meanNow hC (b := quickS (σ 5) c) (fun k hk => ?_) hz1.1 hz1.2.2.1 ?_⟩
      · rw [(hA2.2.2.2.2.1 k hk).1, actA_5]
      conv => whnf
      exact hK M' hA2 ((g2.mono (by decide) (by decide)).tr (fun q hq => h1 q (by omega)))
    | succ n ih =>
      intro j M' hj h1 h2
      refine b_X8_claps_31 hX ?_
      conv => whnf
      refine ⟨5, rfl, by decide, ?_⟩
      conv => whnf
      rw [h2, if_neg (by omega), w62 5 (by omega), pe]
      refine ⟨fun q => absurd q (nI_ge (by omega) (by omega)), fun q => ?_⟩
      conv => whnf
      refine ⟨26 + j, (by simp only [lit_nI, nI_add, nI_mul]), by omega, ?_⟩
      conv => whnf
      refine ⟨by omega, m_bound hC ?_⟩
      conv => whnf
      refine ⟨26 + j, (by simp only [lit_nI, nI_add, nI_mul]), by omega, ?_⟩
      conv => whnf
      rw [nI_1]
      refine ih (j + 1) _ (by omega) (fun q z => by rw [wr_off z]; exact h1 q z) (fun k => ?_)
      by_cases z : k = 26 + j
      · subst z; rw [wr_at, h2, if_neg (by omega), if_pos (by omega)]
      · rw [wr_ne z, h2]
        by_cases z2 : 26 ≤ k ∧ k < 26 + j
        · rw [if_pos z2, if_pos (by omega)]
        · rw [if_neg z2, if_neg (by omega)]
  conv => whnf
  exact loop (nP (σ 5)) 0 M1 (by omega) (fun _ _ => rfl) (fun k => by rw [if_neg (by omega)])
theorem WB.kinds {b : BV} (h : WB b) : kindsOK b := fun i hi => (h.2.2.2.1 i hi).1
theorem mo_bars {C : CC} (hC : Clo C) {d : Nat} (hd : 8 ≤ d) {σ M : MT} {K : KT} {n : Int32} (hA : AM σ M) (hW : WF σ) (hK : ∀ M1, AM (barsR σ n).2 M1 → Fm M M1 61 75 → K (some (.int (barsR σ n).1)) M1) : C d 160 [.ref 61, .int n] M K := by
  obtain ⟨pe, p5, pw, p0⟩ := hW.pl
  unfold barsR at hK
  refine g_X8_bars hC (fun X hX => ?_)
  refine b_X8_bars_0 hX ?_
  conv => whnf
  refine ⟨by omega, m_none hC hA hW (fun hP => ?_) (fun hP => ?_)⟩
  · rw [pit_pos hP] at hK
    conv => whnf
    refine ⟨fun q => absurd q (by decide), fun _ => ?_⟩
    conv => whnf
    exact hK M hA Fm.rf
  have hw := pw hP
  rw [pit_neg (by omega)] at hK
  conv => whnf
  refine ⟨fun _ => ?_, fun z => absurd rfl z⟩
  refine b_X8_bars_10 hX ?_
  conv => whnf
  refine ⟨by omega, m_in hC (fun a0 b0 => ?_) (fun q => ?_)⟩
  rotate_left
  · rw [pit_neg q] at hK
    conv => whnf
    refine ⟨fun z => absurd rfl z, fun _ => ?_⟩
    conv => whnf
    exact hK M hA Fm.rf
  rw [pit_pos ⟨a0, b0⟩] at hK
  obtain ⟨k, -, hk, rfl⟩ := rngL (lo := 1) (hi := 24) (by omega) a0 b0 (by omega)
  rw [tN_nI (by omega)] at hK
  obtain ⟨g, hg, eg⟩ := hw.2.2.1
  conv => whnf
  refine ⟨fun _ => ?_, fun z => absurd z (by decide)⟩
  refine b_X8_bars_25 hX ?_
  conv => whnf
  refine ⟨7, rfl, by decide, ?_⟩
  conv => whnf
  rw [(hA.2.2.2.2.1 7 (by omega)).1]
  refine ⟨fun q => ?_, fun q => ?_⟩
  rotate_left
  · rw [pit_neg q] at hK
    conv => whnf
    exact hK M hA Fm.rf
  rw [pit_pos q] at hK
  rw [eg, add_le hg hk] at q
  have loop : ∀ (m j : Nat) (o : Option Value) (σ' M' : MT), j + m = k → barsA k σ = barsA m σ' → AM σ' M' → WF σ' → WB (σ' 5) → (∃ g, σ' 5 7 = nI g ∧ g + m ≤ 999) → Fm M M' 61 75 → X 45 [some (.ref 61), some (.int (nI k)), some (.int (nI j)), o] [] M' := by
    intro m
    induction m with
    | zero =>
      intro j o σ' M' hj e h1 h2 h3 h4 h5
      rw [Nat.add_zero] at hj
      subst hj
      rw [show barsA 0 σ' = σ' from rfl] at e
      rw [e] at hK
      refine b_X8_bars_45 hX ?_
      conv => whnf
      refine ⟨fun q => ?_, fun q => absurd (nI_le (by omega) (by omega)) q⟩
      refine b_X8_bars_123 hX ?_
      conv => whnf
      refine ⟨by omega, m_meanNow hC (fun k hk => (h1.2.2.2.2.1 k hk).1) h3.1.1 h3.1.2.2.1 ?_⟩
      conv => whnf
      exact hK M' h1 h5
    | succ m ih =>
      intro j o σ' M' hj e h1 h2 h3 ⟨g, h4, h4'⟩ h5
      have z3 := h3.1.2.2.1
      refine b_X8_bars_45 hX ?_
      conv => whnf
      refine ⟨fun q => absurd q (nI_ge (by omega) (by omega)), fun q => ?_⟩
      conv => whnf
      refine ⟨by omega, m_minds hC h1 h2 (fun M1 g1 g2 => ?_)⟩
      have e5 : pushA σ' 5 = σ' 5 := pushA_lo (by omega) (by omega)
      have w62 : ∀ k, k < 61 → M1 62 k = σ' 5 k := fun k hk => by rw [← e5]; exact (g1.2.2.2.2.1 k hk).1
      conv => whnf
      refine ⟨by omega, m_layNow hC w62 (fun M2 g3 g4 => ?_)⟩
      conv => whnf
      refine ⟨by omega, m_plays hC (by omega) g3 h3.1 h3.kinds (fun M3 g5 g6 => ?_)⟩
      have f3 : Fs M1 M3 := g4.tr g6
      have w3 : ∀ k, k < 61 → M3 62 k = σ' 5 k := fun k hk => by rw [f3.1 62 (by omega) (by omega)]; exact w62 k hk
      have inner : ∀ (l p : Nat) (M' : MT), p + l = nP (σ' 5) → (∀ q, q ≠ 62 → M' q = M3 q) → (∀ i, M' 62 i = if 26 ≤ i ∧ i < 26 + p then playS (-1) (σ' 5) i else M3 62 i) → X 64 [some (.ref 61), some (.int (nI k)), some (.int (nI j)), some (.int (nI p))] [] M' := by
        intro l
        induction l with
        | zero =>
          intro p M' hp c1 c2
          rw [Nat.add_zero] at hp
          subst hp
          refine b_X8_bars_64 hX ?_
          conv => whnf
          refine ⟨5, rfl, by decide, ?_⟩
          conv => whnf
          rw [c2, if_neg (by omega), w3 5 (by omega), h3.1.1]
          refine ⟨fun q => ?_, fun q => absurd (nI_le (by omega) (by omega)) q⟩
          refine b_X8_bars_95 hX ?_
          conv => whnf
          refine ⟨6, rfl, by decide, ?_⟩
          conv => whnf
          refine ⟨7, rfl, by decide, ?_⟩
          conv => whnf
          refine ⟨7, rfl, by decide, ?_⟩
          conv => whnf
          rw [nI_1, wr_ne (by decide), c2, if_neg (by omega), w3 7 (by omega), c1 61 (by decide), g5.2.2.1]
          have hw2 := h3.play h4 (by omega)
          have e62 : ∀ i, wr (wr M' 62 6 (playS (-1) (σ' 5) 6)) 62 7 (σ' 5 7 + 1) 62 i = if i = 7 then σ' 5 7 + 1 else if i = 6 then playS (-1) (σ' 5) 6 else M' 62 i := fun i => by
            by_cases z : i = 7
            · subst z; rw [wr_at, if_pos rfl]
            · rw [wr_ne z, if_neg z]
              by_cases z2 : i = 6
              · subst z2; rw [wr_at, if_pos rfl]
              · rw [wr_ne z2, if_neg z2]
          refine ih (j + 1) _ (actA σ' (playS (-1) (σ' 5))) _ (by omega) e (g1.now (fun q z1 z2 z3 => ?_) (fun i z1 z2 => ?_) (fun i hi => ?_) (fun i hi => ?_)) (h2.act h3 hw2 (fun k hk => playS_stat z3 hk)) (by rw [actA_5]; exact hw2) ⟨g + 1, ?_, by omega⟩ (h5.tr ((g2.mono (by decide) (by decide)).tr (fun q hq => ?_)))
          · rw [wr_off z2, wr_off z2, c1 q z2, f3.1 q z1 z3]
          · rw [wr_off (by decide), wr_off (by decide), c1 61 (by decide), f3.2 i z1 z2]
          · rw [e62, if_neg (by omega), if_neg (by omega), c2, if_neg (by omega), f3.1 62 (by omega) (by omega)]
          · rw [e62]
            by_cases z : i = 7
            · rw [if_pos z, z, playS_7]
            · rw [if_neg z]
              by_cases z2 : i = 6
              · rw [if_pos z2, z2]
              · rw [if_neg z2, c2]
                by_cases z4 : 26 ≤ i ∧ i < 26 + nP (σ' 5)
                · rw [if_pos z4]
                · rw [if_neg z4, w3 i hi]
                  unfold playS
                  rw [if_neg z4, if_neg z2, if_neg z]
          · rw [actA_5, playS_7, h4, nI_1]
          · rw [wr_off (by omega), wr_off (by omega), c1 q (by omega)]
            exact f3.fm q hq
        | succ l ihl =>
          intro p M' hp c1 c2
          refine b_X8_bars_64 hX ?_
          conv => whnf
          refine ⟨5, rfl, by decide, ?_⟩
          conv => whnf
          rw [c2, if_neg (by omega), w3 5 (by omega), h3.1.1]
          refine ⟨fun q => absurd q (nI_ge (by omega) (by omega)), fun q => ?_⟩
          conv => whnf
          refine ⟨p, rfl, by omega, ?_⟩
          conv => whnf
          refine ⟨26 + p, (by simp only [lit_nI, nI_add, nI_mul]), by omega, ?_⟩
          conv => whnf
          rw [nI_1, c1 69 (by decide), (g5.2.2.2.2.1 p (by omega)).2.2]
          refine ihl (p + 1) _ (by omega) (fun q z => by rw [wr_off z]; exact c1 q z) (fun i => ?_)
          by_cases z : i = 26 + p
          · subst z; rw [wr_at, if_pos (by omega)]
          · rw [wr_ne z, c2]
            by_cases z2 : 26 ≤ i ∧ i < 26 + p
            · rw [if_pos z2, if_pos (by omega)]
            · rw [if_neg z2, if_neg (by omega)]
      conv => whnf
      exact inner (nP (σ' 5)) 0 M3 (by omega) (fun _ _ => rfl) (fun i => by rw [if_neg (by omega)])
  refine b_X8_bars_43 hX ?_
  conv => whnf
  exact loop k 0 none σ M (by omega) rfl hA hW hw ⟨g, eg, by omega⟩ Fm.rf
