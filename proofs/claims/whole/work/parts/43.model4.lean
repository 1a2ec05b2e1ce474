/-! THE REFERENCE: images, kinds, counts, asks -/
theorem mo_image {C : CC} (hC : Clo C) {d : Nat} (hd : 8 ≤ d) {σ M : MT} {K : KT} {k : Int32} (hA : AM σ M) (hW : WF σ) (hK : ∀ M1, AM (imageR σ k).2 M1 → Fm M M1 61 75 → K (some (.int (imageR σ k).1)) M1) : C d 186 [.ref 61, .int k] M K := by
  unfold imageR at hK
  refine g_X8_image hC (fun X hX => ?_)
  refine b_X8_image_0 hX ?_
  conv => whnf
  refine ⟨by omega, m_in hC (fun a0 b0 => ?_) (fun q => ?_)⟩
  rotate_left
  · rw [pit_neg q] at hK
    conv => whnf
    refine ⟨fun z => absurd rfl z, fun _ => ?_⟩
    conv => whnf
    exact hK M hA Fm.rf
  rw [pit_pos ⟨a0, b0⟩] at hK
  obtain ⟨j, -, hj, rfl⟩ := rngL (lo := 0) (hi := 1) (by omega) a0 b0 (by omega)
  rw [tN_nI (by omega)] at hK
  conv => whnf
  refine ⟨fun _ => ?_, fun z => absurd z (by decide)⟩
  refine b_X8_image_13 hX ?_
  conv => whnf
  refine ⟨by omega, m_none hC hA hW (fun hP => ?_) (fun hP => ?_)⟩
  · rw [pit_pos hP] at hK
    conv => whnf
    refine ⟨fun q => absurd q (by decide), fun _ => ?_⟩
    conv => whnf
    exact hK M hA Fm.rf
  rw [pit_neg (by omega)] at hK
  dsimp only at hK
  obtain ⟨⟨h1, h2⟩, ⟨h3, h3'⟩, ⟨h4, h5⟩, ⟨h6, h7⟩, h8, ⟨h9, h10⟩, h11, h12⟩ := hA
  have loop : ∀ (m e : Nat) (M' : MT), e + m = 61 → (∀ q, q ≠ 62 → M' q = M q) → (∀ i, M' 62 i = if 61 * (j + 1) ≤ i ∧ i < 61 * (j + 1) + e then M 62 (i - 61 * (j + 1)) else M 62 i) → X 25 [some (.ref 61), some (.int (nI j)), some (.int (nI e))] [] M' := by
    intro m
    induction m with
    | zero =>
      intro e M' he g1 g2
      have he : e = 61 := by omega
      subst he
      refine b_X8_image_25 hX ?_
      conv => whnf
      refine ⟨fun q => ?_, fun q => absurd (by decide) q⟩
      refine b_X8_image_56 hX ?_
      conv => whnf
      refine ⟨j, rfl, by omega, ?_⟩
      conv => whnf
      have v1 : vp_nar .boolean 1 = 1 := by decide
      rw [v1]
      refine hK _ ⟨⟨fun i hi => ?_, fun i hi => ?_⟩, ⟨?_, ?_⟩, ⟨?_, fun i hi => ?_⟩, ⟨?_, fun i k hi hk => ?_⟩, fun k hk => ?_, ⟨?_, fun i hi => ?_⟩, ?_, ?_⟩ (fun q hq => by rw [wr_off (by omega), g1 q (by omega)])
      · rw [wr_off (by decide), wr_off (by decide), g1 64 (by decide), g1 65 (by decide), sr_ne (by omega), sr_ne (by omega), wr_off (p := 3) (by omega), wr_off (p := 3) (by omega)]; exact h1 i hi
      · rw [wr_off (by decide), g1 66 (by decide), sr_ne (by omega), wr_off (p := 3) (by omega)]; exact h2 i hi
      · rw [wr_off (by decide), g1 61 (by decide), sr_ne (by omega), wr_ne (by omega)]; exact h3
      · rw [wr_off (by decide), g1 61 (by decide), sr_ne (by omega), wr_ne (by omega)]; exact h3'
      · rw [wr_off (by decide), g1 61 (by decide), sr_ne (by omega), wr_ne (by omega)]; exact h4
      · rw [wr_off (by decide), g1 68 (by decide), sr_ne (by omega), wr_off (p := 3) (by omega)]; exact h5 i hi
      · rw [wr_off (by decide), g1 61 (by decide), sr_ne (by omega), wr_ne (by omega)]; exact h6
      · rw [nA_img (by omega)] at hi
        rw [wr_off (by decide), g2, if_neg (by omega), sr_ne (by omega), wr_off (p := 3) (by omega)]; exact h7 i k hi hk
      · rw [wr_off (by decide), g2, g2, g2, if_neg (by omega), sr_ne (q := 5) (by omega), wr_off (q := 5) (p := 3) (by omega)]
        refine ⟨(h8 k hk).1, ?_, ?_⟩
        · by_cases z : j = 0
          · subst z; rw [if_pos (by omega), sr_at, show 61 + k - 61 * (0 + 1) = k by omega]; exact (h8 k hk).1
          · rw [if_neg (by omega), sr_ne (by omega), wr_off (p := 3) (by omega)]; exact (h8 k hk).2.1
        · by_cases z : j = 1
          · subst z; rw [if_pos (by omega), sr_at, show 122 + k - 61 * (1 + 1) = k by omega]; exact (h8 k hk).1
          · rw [if_neg (by omega), sr_ne (by omega), wr_off (p := 3) (by omega)]; exact (h8 k hk).2.2
      · rw [wr_off (by decide), g1 61 (by decide), sr_ne (by omega), wr_ne (by omega)]; exact h9
      · rw [wr_off (by decide), g1 75 (by decide), sr_ne (by omega), wr_off (p := 3) (by omega)]; exact h10 i hi
      · rw [sr_ne (by omega)]
        by_cases z : j = 0
        · subst z; rw [wr_at, wr_at]
        · rw [wr_ne (by omega), wr_ne (by omega), g1 63 (by decide)]; exact h11
      · rw [sr_ne (by omega)]
        by_cases z : j = 1
        · subst z; rw [wr_at, wr_at]
        · rw [wr_ne (by omega), wr_ne (by omega), g1 63 (by decide)]; exact h12
    | succ m ih =>
      intro e M' he g1 g2
      refine b_X8_image_25 hX ?_
      conv => whnf
      refine ⟨fun q => absurd ((le_nI (a := 61) (by omega) (by omega)).mp q) (by omega), fun q => ?_⟩
      conv => whnf
      refine ⟨e, rfl, by omega, ?_⟩
      conv => whnf
      refine ⟨61 * (j + 1) + e, (by simp only [lit_nI, nI_add, nI_mul]), by omega, ?_⟩
      conv => whnf
      rw [nI_1, g2 e, if_neg (by omega)]
      refine ih (e + 1) _ (by omega) (fun q z => by rw [wr_off z]; exact g1 q z) (fun i => ?_)
      by_cases z : i = 61 * (j + 1) + e
      · subst z; rw [wr_at, if_pos (by omega)]; congr 1; omega
      · rw [wr_ne z, g2 i]
        by_cases z2 : 61 * (j + 1) ≤ i ∧ i < 61 * (j + 1) + e
        · rw [if_pos z2, if_pos (by omega)]
        · rw [if_neg z2, if_neg (by omega)]
  conv => whnf
  refine ⟨fun _ => ?_, fun z => absurd rfl z⟩
  refine b_X8_image_23 hX ?_
  conv => whnf
  exact loop 61 0 M (by omega) (fun _ _ => rfl) (fun i => by rw [if_neg (by omega)])
theorem mo_restore {C : CC} (hC : Clo C) {d : Nat} (hd : 8 ≤ d) {σ M : MT} {K : KT} {k : Int32} (hA : AM σ M) (hW : WF σ) (hK : ∀ M1, AM (restoreR σ k).2 M1 → Fm M M1 61 75 → K (some (.int (restoreR σ k).1)) M1) : C d 187 [.ref 61, .int k] M K := by
  unfold restoreR at hK
  refine g_X8_restore hC (fun X hX => ?_)
  refine b_X8_restore_0 hX ?_
  conv => whnf
  refine ⟨by omega, m_in hC (fun a0 b0 => ?_) (fun q => ?_)⟩
  rotate_left
  · rw [pit_neg q] at hK
    conv => whnf
    refine ⟨fun z => absurd rfl z, fun _ => ?_⟩
    conv => whnf
    exact hK M hA Fm.rf
  rw [pit_pos ⟨a0, b0⟩] at hK
  obtain ⟨j, -, hj, rfl⟩ := rngL (lo := 0) (hi := 1) (by omega) a0 b0 (by omega)
  rw [tN_nI (by omega)] at hK
  have ek : M 63 j = σ 3 (5 + j) := by
    have : j = 0 ∨ j = 1 := by omega
    rcases this with rfl | rfl
    · exact hA.2.2.2.2.2.2.1
    · exact hA.2.2.2.2.2.2.2
  conv => whnf
  refine ⟨fun _ => ?_, fun z => absurd z (by decide)⟩
  refine b_X8_restore_13 hX ?_
  conv => whnf
  refine ⟨j, rfl, by omega, ?_⟩
  conv => whnf
  rw [ek]
  refine ⟨fun q => ?_, fun q => ?_⟩
  rotate_left
  · rw [pit_neg (by rw [q]; decide)] at hK
    conv => whnf
    exact hK M hA Fm.rf
  have q1 : σ 3 (5 + j) = 1 := by
    rcases hW.2.2.2.2.2.1 j (by omega) with ⟨z, -⟩ | ⟨z, -⟩
    · exact absurd z q
    · exact z
  rw [pit_pos q1] at hK
  dsimp only at hK
  obtain ⟨⟨h1, h2⟩, ⟨h3, h3'⟩, ⟨h4, h5⟩, ⟨h6, h7⟩, h8, ⟨h9, h10⟩, h11, h12⟩ := hA
  have e6 : ∀ k, k < 61 → M 62 (61 * (j + 1) + k) = σ (6 + j) k := fun k hk => by
    have : j = 0 ∨ j = 1 := by omega
    rcases this with rfl | rfl
    · exact (h8 k hk).2.1
    · exact (h8 k hk).2.2
  have loop : ∀ (m e : Nat) (M' : MT), e + m = 61 → (∀ q, q ≠ 62 → M' q = M q) → (∀ i, M' 62 i = if i < e then σ (6 + j) i else M 62 i) → X 27 [some (.ref 61), some (.int (nI j)), some (.int (nI e))] [] M' := by
    intro m
    induction m with
    | zero =>
      intro e M' he g1 g2
      have he : e = 61 := by omega
      subst he
      refine b_X8_restore_27 hX ?_
      conv => whnf
      refine ⟨fun q => ?_, fun q => absurd (by decide) q⟩
      refine b_X8_restore_58 hX ?_
      conv => whnf
      refine hK _ ⟨⟨fun i hi => ?_, fun i hi => ?_⟩, ⟨?_, ?_⟩, ⟨?_, fun i hi => ?_⟩, ⟨?_, fun i k hi hk => ?_⟩, fun k hk => ?_, ⟨?_, fun i hi => ?_⟩, ?_, ?_⟩ (fun q hq => by rw [wr_off (by omega), g1 q (by omega)])
      · rw [wr_off (by decide), wr_off (by decide), g1 64 (by decide), g1 65 (by decide), sr_ne (by omega), sr_ne (by omega), wr_off (p := 3) (by omega), wr_off (p := 3) (by omega)]; exact h1 i hi
      · rw [wr_off (by decide), g1 66 (by decide), sr_ne (by omega), wr_off (p := 3) (by omega)]; exact h2 i hi
      · rw [wr_ne (by decide), g1 61 (by decide), sr_ne (by omega), wr_ne (by omega)]; exact h3
      · rw [wr_ne (by decide), g1 61 (by decide), sr_ne (by omega), wr_ne (by omega)]; exact h3'
      · rw [wr_ne (by decide), g1 61 (by decide), sr_ne (by omega), wr_ne (by omega)]; exact h4
      · rw [wr_off (by decide), g1 68 (by decide), sr_ne (by omega), wr_off (p := 3) (by omega)]; exact h5 i hi
      · rw [wr_at, sr_ne (by omega), wr_at]
      · rw [nA_res] at hi; omega
      · rw [wr_off (by decide), g2, g2, g2, if_pos hk, if_neg (by omega), if_neg (by omega), sr_at, sr_ne (by omega), sr_ne (by omega), wr_off (p := 3) (by omega), wr_off (p := 3) (by omega)]
        exact ⟨rfl, (h8 k hk).2⟩
      · rw [wr_ne (by decide), g1 61 (by decide), sr_ne (by omega), wr_ne (by omega)]; exact h9
      · rw [wr_off (by decide), g1 75 (by decide), sr_ne (by omega), wr_off (p := 3) (by omega)]; exact h10 i hi
      · rw [wr_off (by decide), g1 63 (by decide), sr_ne (by omega), wr_ne (by omega)]; exact h11
      · rw [wr_off (by decide), g1 63 (by decide), sr_ne (by omega), wr_ne (by omega)]; exact h12
    | succ m ih =>
      intro e M' he g1 g2
      refine b_X8_restore_27 hX ?_
      conv => whnf
      refine ⟨fun q => absurd ((le_nI (a := 61) (by omega) (by omega)).mp q) (by omega), fun q => ?_⟩
      conv => whnf
      refine ⟨61 * (j + 1) + e, (by simp only [lit_nI, nI_add, nI_mul]), by omega, ?_⟩
      conv => whnf
      refine ⟨e, rfl, by omega, ?_⟩
      conv => whnf
      rw [nI_1, g2, if_neg (by omega), e6 e (by omega)]
      refine ih (e + 1) _ (by omega) (fun q z => by rw [wr_off z]; exact g1 q z) (fun i => ?_)
      by_cases z : i = e
      · subst z; rw [wr_at, if_pos (by omega)]
      · rw [wr_ne z, g2 i]
        by_cases z2 : i < e
        · rw [if_pos z2, if_pos (by omega)]
        · rw [if_neg z2, if_neg (by omega)]
  refine b_X8_restore_25 hX ?_
  conv => whnf
  exact loop 61 0 M (by omega) (fun _ _ => rfl) (fun i => by rw [if_neg (by omega)])
theorem mo_status {C : CC} (hC : Clo C) {d : Nat} {σ M : MT} {K : KT} (hA : AM σ M) (hK : K (some (.int (statusR σ))) M) : C d 204 [.ref 61] M K := by
  refine g_X8_status hC (fun X hX => ?_)
  refine b_X8_status_0 hX ?_
  conv => whnf
  rw [hA.2.1.1]
  exact hK
theorem mo_kind {C : CC} (hC : Clo C) {d : Nat} (hd : 8 ≤ d) {σ M : MT} {K : KT} {p : Int32} (hA : AM σ M) (hW : WF σ) (hK : K (some (.int (kindR σ p))) M) : C d 189 [.ref 61, .int p] M K := by
  obtain ⟨pe, p5, pw, p0⟩ := hW.pl
  have e5 : M 62 5 = nI (nP (σ 5)) := (hA.2.2.2.2.1 5 (by omega)).1.trans pe
  unfold kindR at hK
  refine g_X8_kind hC (fun X hX => ?_)
  refine b_X8_kind_0 hX ?_
  conv => whnf
  refine ⟨by omega, m_isPlayer hC (by omega) e5 p5 (fun i hi ei => ?_) (fun q => ?_)⟩
  · rw [pit_pos ⟨i, hi, ei⟩] at hK
    subst ei
    rw [tN_nI (by omega)] at hK
    conv => whnf
    refine ⟨fun q => absurd q (by decide), fun _ => ?_⟩
    conv => whnf
    refine ⟨21 + i, (by simp only [lit_nI, nI_add, nI_mul]), by omega, ?_⟩
    conv => whnf
    rw [(hA.2.2.2.2.1 (21 + i) (by omega)).1]
    exact hK
  · rw [pit_neg q] at hK
    conv => whnf
    refine ⟨fun _ => ?_, fun z => absurd rfl z⟩
    refine b_X8_kind_20 hX ?_
    conv => whnf
    refine b_X8_kind_22 hX ?_
    conv => whnf
    exact hK
theorem m_isOf {C : CC} (hC : Clo C) {d : Nat} {M : MT} {K : KT} {k : Nat} {o : Int32} (hk1 : 1 ≤ k) (hk5 : k ≤ 5) (h1 : isOfS (nI k) o → K (some (.int 1)) M) (h0 : ¬ isOfS (nI k) o → K (some (.int 0)) M) : C d 190 [.int (nI k), .int o] M K := by
  have hk : k = 1 ∨ k = 2 ∨ k = 3 ∨ k = 4 ∨ k = 5 := by omega
  refine g_X8_isOf hC (fun X hX => ?_)
  have b29 : isOfS (nI k) o → X 29 [some (.int (nI k)), some (.int o)] [] M := fun q => by
    refine b_X8_isOf_29 hX ?_
    conv => whnf
    exact ⟨Or.inr rfl, h1 q⟩
  have b33 : ¬ isOfS (nI k) o → X 33 [some (.int (nI k)), some (.int o)] [] M := fun q => by
    refine b_X8_isOf_33 hX ?_
    conv => whnf
    refine b_X8_isOf_34 hX ?_
    conv => whnf
    exact ⟨Or.inl rfl, h0 q⟩
  have b19 : ¬ o = 0 → ¬ o = nI k → ¬ (o = 1 ∧ k ≤ 3) → X 19 [some (.int (nI k)), some (.int o)] [] M := fun n0 n1 n2 => by
    refine b_X8_isOf_19 hX ?_
    conv => whnf
    have no : ¬ (o = 4 ∧ nI k = 5) → ¬ isOfS (nI k) o := by
      rintro n3 (z | z | ⟨z, z2⟩ | z)
      · exact n0 z
      · exact n1 z
      · refine n2 ⟨z, ?_⟩
        rcases z2 with z2 | z2
        · have := (eq_nI (b := 2) (by omega) (by omega)).mp z2; omega
        · have := (eq_nI (b := 3) (by omega) (by omega)).mp z2; omega
      · exact n3 z
    refine ⟨fun q => b33 (no (fun z => q z.1)), fun q => ?_⟩
    conv => whnf
    refine ⟨fun q2 => b33 (no (fun z => q2 z.2)), fun q2 => ?_⟩
    exact b29 (Or.inr (Or.inr (Or.inr ⟨q, q2⟩)))
  refine b_X8_isOf_0 hX ?_
  conv => whnf
  refine ⟨fun q => b29 (Or.inl q), fun n0 => ?_⟩
  conv => whnf
  refine ⟨fun q => b29 (Or.inr (Or.inl q)), fun n1 => ?_⟩
  conv => whnf
  refine ⟨fun q => b19 n0 n1 (fun z => q z.1), fun q => ?_⟩
  conv => whnf
  refine ⟨fun q2 => b29 ?_, fun q2 => b19 n0 n1 (fun z => q2 ((le_nI (b := 3) (by omega) (by omega)).mpr z.2))⟩
  have k3 : k ≤ 3 := (le_nI (b := 3) (by omega) (by omega)).mp q2
  have kn1 : k ≠ 1 := fun z => n1 (by rw [q, z]; rfl)
  have : k = 2 ∨ k = 3 := by omega
  refine Or.inr (Or.inr (Or.inl ⟨q, ?_⟩))
  rcases this with rfl | rfl
  · exact Or.inl rfl
  · exact Or.inr rfl
theorem mo_as {C : CC} (hC : Clo C) {d : Nat} (hd : 8 ≤ d) {σ M : MT} {K : KT} {p k : Int32} (hA : AM σ M) (hW : WF σ) (hK : ∀ M1, AM (asR σ p k).2 M1 → Fm M M1 61 75 → K (some (.int (asR σ p k).1)) M1) : C d 191 [.ref 61, .int p, .int k] M K := by
  obtain ⟨pe, p5, pw, p0⟩ := hW.pl
  have e5 : M 62 5 = nI (nP (σ 5)) := (hA.2.2.2.2.1 5 (by omega)).1.trans pe
  unfold asR at hK
  refine g_X8_as hC (fun X hX => ?_)
  have bB : ¬ (isPl (nP (σ 5)) p ∧ (0 ≤ k ∧ k ≤ 5)) → X 20 [some (.ref 61), some (.int p), some (.int k)] [] M := fun q => by
    rw [pit_neg q] at hK
    refine b_X8_as_20 hX ?_
    conv => whnf
    exact hK M hA Fm.rf
  refine b_X8_as_0 hX ?_
  conv => whnf
  refine ⟨by omega, m_isPlayer hC (by omega) e5 p5 (fun i hi ei => ?_) (fun q => ?_)⟩
  rotate_left
  · conv => whnf
    exact ⟨fun _ => bB (fun z => q z.1), fun z => absurd rfl z⟩
  conv => whnf
  refine ⟨fun q => absurd q (by decide), fun _ => ?_⟩
  conv => whnf
  refine ⟨by omega, m_in hC (fun a0 b0 => ?_) (fun q => ?_)⟩
  rotate_left
  · conv => whnf
    exact ⟨fun z => absurd rfl z, fun _ => bB (fun z => q z.2)⟩
  rw [pit_pos ⟨⟨i, hi, ei⟩, a0, b0⟩] at hK
  subst ei
  rw [tN_nI (by omega)] at hK
  obtain ⟨kk, k1, k2, k3⟩ := (pw (by omega)).kinds i hi
  rw [k3] at hK
  conv => whnf
  refine ⟨fun _ => ?_, fun z => absurd z (by decide)⟩
  refine b_X8_as_23 hX ?_
  conv => whnf
  refine ⟨21 + i, (by simp only [lit_nI, nI_add, nI_mul]), by omega, ?_⟩
  conv => whnf
  rw [(hA.2.2.2.2.1 (21 + i) (by omega)).1, k3]
  refine ⟨by omega, m_isOf hC k1 k2 (fun q => ?_) (fun q => ?_)⟩
  · rw [pit_pos q] at hK
    conv => whnf
    refine ⟨fun q => absurd q (by decide), fun _ => ?_⟩
    conv => whnf
    refine ⟨by omega, m_well hC ?_⟩
    conv => whnf
    exact hK _ hA.st (Fm.wr Fm.rf (by decide) (by decide))
  · rw [pit_neg q] at hK
    conv => whnf
    refine ⟨fun _ => ?_, fun z => absurd rfl z⟩
    refine b_X8_as_47 hX ?_
    conv => whnf
    refine ⟨by omega, m_found hC ?_⟩
    conv => whnf
    refine b_X8_as_52 hX ?_
    conv => whnf
    exact hK _ hA.st (Fm.wr Fm.rf (by decide) (by decide))
theorem mo_trace {C : CC} (hC : Clo C) {d : Nat} (hd : 8 ≤ d) {σ M : MT} {K : KT} {i : Int32} (hA : AM σ M) (hW : WF σ) (hK : K (some (.int (traceR σ i))) M) : C d 201 [.ref 61, .int i] M K := by
  obtain ⟨t, ht, et⟩ := hW.2.2.2.1
  obtain ⟨a1, a2⟩ := hA.2.2.2.2.2.1
  unfold traceR at hK
  rw [et, tN_nI (by omega)] at hK
  refine g_X8_trace hC (fun X hX => ?_)
  refine b_X8_trace_0 hX ?_
  conv => whnf
  rw [a1, et]
  refine ⟨by omega, m_in hC (fun h1 h2 => ?_) (fun q => ?_)⟩
  · obtain ⟨k, hk, rfl⟩ := (isPl_iff (by omega)).mp ⟨h1, h2⟩
    rw [pit_pos ⟨k, hk, rfl⟩, tN_nI (by omega)] at hK
    conv => whnf
    refine ⟨fun q => absurd q (by decide), fun _ => ?_⟩
    conv => whnf
    refine ⟨k, rfl, by omega, ?_⟩
    conv => whnf
    rw [a2 k (by omega)]
    exact hK
  · rw [pit_neg (fun z => q ((isPl_iff (by omega)).mpr z))] at hK
    conv => whnf
    refine ⟨fun _ => ?_, fun z => absurd rfl z⟩
    refine b_X8_trace_25 hX ?_
    conv => whnf
    refine b_X8_trace_27 hX ?_
    conv => whnf
    exact hK
theorem mo_bar {C : CC} (hC : Clo C) {d : Nat} (hd : 8 ≤ d) {σ M : MT} {K : KT} {k : Int32} (hA : AM σ M) (hW : WF σ) (hK : K (some (.int (barR σ k))) M) : C d 167 [.ref 61, .int k] M K := by
  obtain ⟨be, b12⟩ := hW.bl
  have e1 : M 62 4 = nI (nB (σ 5)) := (hA.2.2.2.2.1 4 (by omega)).1.trans be
  unfold barR at hK
  refine g_X8_bar hC (fun X hX => ?_)
  refine b_X8_bar_0 hX ?_
  conv => whnf
  refine ⟨4, rfl, by decide, ?_⟩
  conv => whnf
  rw [e1]
  refine ⟨by omega, m_in hC (fun h1 h2 => ?_) (fun q => ?_)⟩
  · obtain ⟨j, hj, rfl⟩ := (isPl_iff (by omega)).mp ⟨h1, h2⟩
    rw [pit_pos ⟨j, hj, rfl⟩, tN_nI (by omega)] at hK
    conv => whnf
    refine ⟨fun q => absurd q (by decide), fun _ => ?_⟩
    conv => whnf
    refine ⟨9 + j, (by simp only [lit_nI, nI_add, nI_mul]), by omega, ?_⟩
    conv => whnf
    rw [(hA.2.2.2.2.1 (9 + j) (by omega)).1]
    exact hK
  · rw [pit_neg (fun z => q ((isPl_iff (by omega)).mpr z))] at hK
    conv => whnf
    refine ⟨fun _ => ?_, fun z => absurd rfl z⟩
    refine b_X8_bar_30 hX ?_
    conv => whnf
    refine b_X8_bar_32 hX ?_
    conv => whnf
    exact hK
theorem mo_ear {C : CC} (hC : Clo C) {d : Nat} (hd : 8 ≤ d) {σ M : MT} {K : KT} {i j : Int32} (hA : AM σ M) (hW : WF σ) (hK : K (some (.int (earR σ i j))) M) : C d 166 [.ref 61, .int i, .int j] M K := by
  obtain ⟨pe, p5, pw, p0⟩ := hW.pl
  have e5 : M 62 5 = nI (nP (σ 5)) := (hA.2.2.2.2.1 5 (by omega)).1.trans pe
  unfold earR at hK
  refine g_X8_ear hC (fun X hX => ?_)
  have bB : ¬ canH (nP (σ 5)) i j → X 37 [some (.ref 61), some (.int i), some (.int j)] [] M := fun q => by
    rw [pit_neg q] at hK
    refine b_X8_ear_37 hX ?_
    conv => whnf
    refine b_X8_ear_39 hX ?_
    conv => whnf
    exact hK
  refine b_X8_ear_0 hX ?_
  conv => whnf
  refine ⟨by omega, m_isPlayer hC (by omega) e5 p5 (fun x hx ex => ?_) (fun q => ?_)⟩
  rotate_left
  · conv => whnf
    exact ⟨fun _ => bB (fun z => q z.1), fun z => absurd rfl z⟩
  conv => whnf
  refine ⟨fun q => absurd q (by decide), fun _ => ?_⟩
  conv => whnf
  refine ⟨by omega, m_isPlayer hC (by omega) e5 p5 (fun y hy ey => ?_) (fun q => ?_)⟩
  rotate_left
  · conv => whnf
    exact ⟨fun _ => bB (fun z => q z.2.1), fun z => absurd rfl z⟩
  conv => whnf
  refine ⟨fun q => absurd q (by decide), fun _ => ?_⟩
  conv => whnf
  refine ⟨fun q => bB (fun z => z.2.2 q), fun hne => ?_⟩
  rw [pit_pos ⟨⟨x, hx, ex⟩, ⟨y, hy, ey⟩, hne⟩] at hK
  subst ex; subst ey
  rw [tN_nI (by omega), tN_nI (by omega)] at hK
  have ei : 36 + 5 * x + y = 36 + (5 * x + y) := by omega
  conv => whnf
  refine ⟨36 + (5 * x + y), by rw [← ei]; exact (by simp only [lit_nI, nI_add, nI_mul]), by omega, ?_⟩
  conv => whnf
  rw [(hA.2.2.2.2.1 (36 + (5 * x + y)) (by omega)).1]
  exact hK
theorem cntS_skip {f : Nat → Int32} {P : Nat} : ∀ (n : Nat), (∀ k, P ≤ k → k < P + n → f k = 0) → cntS f (P + n) = cntS f P := by
  intro n
  induction n with
  | zero => intro _; rfl
  | succ n ih =>
    intro h
    rw [← Nat.add_assoc]
    show (if f (P + n) = 0 then cntS f (P + n) else _) = _
    rw [if_pos (h (P + n) (by omega) (by omega))]
    exact ih (fun k a b => h k a (by omega))
theorem mo_player {C : CC} (hC : Clo C) {d : Nat} (hd : 8 ≤ d) {σ M : MT} {K : KT} {p what : Int32} (hA : AM σ M) (hW : WF σ) (hK : K (some (.int (playerR σ p what))) M) : C d 165 [.ref 61, .int p, .int what] M K := by
  obtain ⟨pe, p5, pw, p0⟩ := hW.pl
  have e5 : M 62 5 = nI (nP (σ 5)) := (hA.2.2.2.2.1 5 (by omega)).1.trans pe
  have w62 : ∀ k, k < 61 → M 62 k = σ 5 k := fun k hk => (hA.2.2.2.2.1 k hk).1
  unfold playerR at hK
  refine g_X8_player hC (fun X hX => ?_)
  have bB : ¬ (isPl (nP (σ 5)) p ∧ (0 ≤ what ∧ what ≤ 3)) → X 20 [some (.ref 61), some (.int p), some (.int what), none, none] [] M := fun q => by
    have hB : K (some (.int (-1000001))) M := by
      by_cases z : isPl (nP (σ 5)) p
      · have z2 : ¬ (0 ≤ what ∧ what ≤ 3) := fun w => q ⟨z, w⟩
        rw [pit_pos z, pit_neg (fun w => z2 (by rw [w]; decide)), pit_neg (fun w => z2 (by rw [w]; decide)), pit_neg (fun w => z2 (by rw [w]; decide)), pit_neg (fun w => z2 (by rw [w]; decide))] at hK
        exact hK
      · rw [pit_neg z] at hK
        exact hK
    refine b_X8_player_20 hX ?_
    conv => whnf
    exact hB
  refine b_X8_player_0 hX ?_
  conv => whnf
  refine ⟨by omega, m_isPlayer hC (by omega) e5 p5 (fun i hi ei => ?_) (fun q => ?_)⟩
  rotate_left
  · conv => whnf
    exact ⟨fun _ => bB (fun z => q z.1), fun z => absurd rfl z⟩
  conv => whnf
  refine ⟨fun q => absurd q (by decide), fun _ => ?_⟩
  conv => whnf
  refine ⟨by omega, m_in hC (fun a0 b0 => ?_) (fun q => ?_)⟩
  rotate_left
  · conv => whnf
    exact ⟨fun z => absurd rfl z, fun _ => bB (fun z => q z.2)⟩
  rw [pit_pos ⟨i, hi, ei⟩] at hK
  subst ei
  rw [tN_nI (by omega)] at hK
  have hw := pw (by omega)
  have loop : ∀ (n j : Nat), j + n = 5 → X 28 [some (.ref 61), some (.int (nI i)), some (.int what), some (.int (cntS (fun j => σ 5 (36 + (5 * i + j))) j)), some (.int (nI j))] [] M := by
    intro n
    induction n with
    | zero =>
      intro j hj
      have hj : j = 5 := by omega
      subst hj
      have ec : cntS (fun j => σ 5 (36 + (5 * i + j))) 5 = cntS (fun j => σ 5 (36 + (5 * i + j))) (nP (σ 5)) := by
        have := cntS_skip (f := fun j => σ 5 (36 + (5 * i + j))) (P := nP (σ 5)) (5 - nP (σ 5)) (fun k k1 k2 => (hw.2.2.2.2 i k (by omega) (by omega)).2 (by omega))
        rwa [show nP (σ 5) + (5 - nP (σ 5)) = 5 by omega] at this
      rw [ec]
      refine b_X8_player_28 hX ?_
      conv => whnf
      refine ⟨fun q => ?_, fun q => absurd (by decide) q⟩
      refine b_X8_player_65 hX ?_
      conv => whnf
      refine ⟨fun n0 => ?_, fun q0 => ?_⟩
      · rw [pit_neg n0] at hK
        refine b_X8_player_81 hX ?_
        conv => whnf
        refine ⟨fun n1 => ?_, fun q1 => ?_⟩
        · rw [pit_neg n1] at hK
          refine b_X8_player_98 hX ?_
          conv => whnf
          refine ⟨fun n2 => ?_, fun q2 => ?_⟩
          · have w3 : what = 3 := by
              obtain ⟨k, -, k2, rfl⟩ := rngL (lo := 0) (hi := 3) (by omega) a0 b0 (by omega)
              have z0 : k ≠ 0 := fun z => n0 (by rw [z]; rfl)
              have z1 : k ≠ 1 := fun z => n1 (by rw [z]; rfl)
              have z2 : k ≠ 2 := fun z => n2 (by rw [z]; rfl)
              have : k = 3 := by omega
              rw [this]; rfl
            rw [pit_neg n2, pit_pos w3] at hK
            refine b_X8_player_134 hX ?_
            conv => whnf
            refine b_X8_player_135 hX ?_
            conv => whnf
            exact hK
          · rw [pit_pos q2] at hK
            obtain ⟨kk, k1, k2, k3⟩ := hw.kinds i hi
            conv => whnf
            refine ⟨21 + i, (by simp only [lit_nI, nI_add, nI_mul]), by omega, ?_⟩
            conv => whnf
            refine ⟨6, rfl, by decide, ?_⟩
            conv => whnf
            rw [w62 6 (by omega), hw.1.2.2.2.2.2.1]
            have hx := hw.1.2.2.2.2.2.2
            have h12 := hw.1.2.2.2.2.1
            refine ⟨9 + nX (σ 5), (by simp only [lit_nI, nI_add, nI_mul]), by omega, ?_⟩
            conv => whnf
            rw [w62 (9 + nX (σ 5)) (by omega), w62 (21 + i) (by omega), k3]
            rw [k3] at hK
            refine ⟨by omega, m_leanAt hC (fun j hj => w62 j (by omega)) k1 k2 ?_⟩
            conv => whnf
            exact hK
        · rw [pit_pos q1] at hK
          conv => whnf
          refine ⟨31 + i, (by simp only [lit_nI, nI_add, nI_mul]), by omega, ?_⟩
          conv => whnf
          rw [w62 (31 + i) (by omega)]
          exact hK
      · rw [pit_pos q0] at hK
        conv => whnf
        refine ⟨26 + i, (by simp only [lit_nI, nI_add, nI_mul]), by omega, ?_⟩
        conv => whnf
        rw [w62 (26 + i) (by omega)]
        exact hK
    | succ n ih =>
      intro j hj
      have ei : 36 + 5 * i + j = 36 + (5 * i + j) := by omega
      obtain ⟨⟨w, w1, w2⟩, -⟩ := hw.2.2.2.2 i j (by omega) (by omega)
      refine b_X8_player_28 hX ?_
      conv => whnf
      refine ⟨fun q => absurd ((le_nI (a := 5) (by omega) (by omega)).mp q) (by omega), fun q => ?_⟩
      conv => whnf
      refine ⟨36 + (5 * i + j), by rw [← ei]; exact (by simp only [lit_nI, nI_add, nI_mul]), by omega, ?_⟩
      conv => whnf
      rw [w62 (36 + (5 * i + j)) (by omega), w2]
      have nx : ∀ s : Int32, s = cntS (fun j => σ 5 (36 + (5 * i + j))) (j + 1) → X 28 [some (.ref 61), some (.int (nI i)), some (.int what), some (.int s), some (.int (nI j + 1))] [] M := fun s hs => by
        rw [nI_1, hs]
        exact ih (j + 1) (by omega)
      refine ⟨fun q1 => ?_, fun q1 => ?_⟩
      · have w0 : w = 0 := by
          rcases Nat.eq_zero_or_pos w with z | z
          · exact z
          · exact absurd q1 (nI_nle z (by omega))
        refine b_X8_player_56 hX ?_
        conv => whnf
        refine b_X8_player_57 hX ?_
        conv => whnf
        refine nx _ ?_
        show _ = if σ 5 (36 + (5 * i + j)) = 0 then _ else _
        rw [if_pos (by rw [w2, w0]; rfl), Int32.add_zero]
      · have w0 : ¬ nI w = 0 := fun z => q1 (by rw [z]; exact Int32.le_refl _)
        conv => whnf
        refine nx _ ?_
        show _ = if σ 5 (36 + (5 * i + j)) = 0 then _ else _
        rw [if_neg (by rw [w2]; exact w0)]
  conv => whnf
  refine ⟨fun _ => ?_, fun z => absurd z (by decide)⟩
  refine b_X8_player_23 hX ?_
  conv => whnf
  exact loop 5 0 (by omega)
theorem m_rowsMany {C : CC} (hC : Clo C) {d : Nat} {M : MT} {K : KT} (hl : ∀ r, r < 8 → M 64 r = -1 ∨ ∃ k, k ≤ 2 ∧ M 64 r = nI k) (hK : K (some (.int (manyS (M 64) 8))) M) : C d 202 [.ref 61] M K := by
  refine g_X8_rowsMany hC (fun X hX => ?_)
  have loop : ∀ (m k : Nat), k + m = 8 → X 4 [some (.ref 61), some (.int (manyS (M 64) k)), some (.int (nI k))] [] M := by
    intro m
    induction m with
    | zero =>
      intro k hk
      have hk : k = 8 := by omega
      subst hk
      refine b_X8_rowsMany_4 hX ?_
      conv => whnf
      refine ⟨fun q => ?_, fun q => absurd (by decide) q⟩
      refine b_X8_rowsMany_33 hX ?_
      conv => whnf
      exact hK
    | succ m ih =>
      intro k hk
      have nx : ∀ s : Int32, s = manyS (M 64) (k + 1) → X 4 [some (.ref 61), some (.int s), some (.int (nI k + 1))] [] M := fun s hs => by
        rw [nI_1, hs]
        exact ih (k + 1) (by omega)
      refine b_X8_rowsMany_4 hX ?_
      conv => whnf
      refine ⟨fun q => absurd ((le_nI (a := 8) (by omega) (by omega)).mp q) (by omega), fun q => ?_⟩
      conv => whnf
      refine ⟨k, rfl, by omega, ?_⟩
      conv => whnf
      refine ⟨fun q1 => ?_, fun q1 => ?_⟩
      · refine b_X8_rowsMany_24 hX ?_
        conv => whnf
        refine b_X8_rowsMany_25 hX ?_
        conv => whnf
        refine nx _ (if_neg (fun z => by rw [z] at q1; exact absurd q1 (by decide))).symm
      · conv => whnf
        refine nx _ ?_
        rw [Int32.add_zero]
        exact (if_pos ((lane_neg (hl k (by omega))).mp (Int32.not_le.mp q1))).symm
  refine b_X8_rowsMany_0 hX ?_
  conv => whnf
  exact loop 8 0 (by omega)
theorem mo_count {C : CC} (hC : Clo C) {d : Nat} (hd : 8 ≤ d) {σ M : MT} {K : KT} {what : Int32} (hA : AM σ M) (hW : WF σ) (hK : K (some (.int (countR σ what))) M) : C d 203 [.ref 61, .int what] M K := by
  obtain ⟨pe, p5, pw, p0⟩ := hW.pl
  have w62 : ∀ k, k < 61 → M 62 k = σ 5 k := fun k hk => (hA.2.2.2.2.1 k hk).1
  unfold countR at hK
  refine g_X8_count hC (fun X hX => ?_)
  refine b_X8_count_0 hX ?_
  conv => whnf
  have t0 : (0 : Int32).toInt = 0 := by decide
  have t1 : (1 : Int32).toInt = 1 := by decide
  have t2 : (2 : Int32).toInt = 2 := by decide
  have t3 : (3 : Int32).toInt = 3 := by decide
  have t4 : (4 : Int32).toInt = 4 := by decide
  have t5 : (5 : Int32).toInt = 5 := by decide
  have t6 : (6 : Int32).toInt = 6 := by decide
  have t7 : (7 : Int32).toInt = 7 := by decide
  have t8 : (8 : Int32).toInt = 8 := by decide
  refine ⟨fun h => ?_, fun h => ?_, fun h => ?_, fun h => ?_, fun h => ?_, fun h => ?_, fun h => ?_, fun h => ?_, fun h => ?_, fun h => ?_, trivial⟩
  · rw [pit_neg (fun z => by rw [z, t0] at h; omega), pit_neg (fun z => by rw [z, t1] at h; omega), pit_neg (fun z => by rw [z, t2] at h; omega), pit_neg (fun z => by rw [z, t3] at h; omega), pit_neg (fun z => by rw [z, t4] at h; omega), pit_neg (fun z => by rw [z, t5] at h; omega), pit_neg (fun z => by rw [z, t6] at h; omega), pit_neg (fun z => by rw [z, t7] at h; omega), pit_neg (fun z => by rw [z, t8] at h; omega)] at hK
    refine b_X8_count_109 hX ?_
    conv => whnf
    exact hK
  · have e : what = 0 := Int32.toInt_inj.mp (by rw [h, t0])
    subst e
    rw [pit_pos rfl] at hK
    refine b_X8_count_52 hX ?_
    conv => whnf
    refine ⟨by omega, m_rowsMany hC (fun r hr => by rw [(hA.1.1 r hr).1]; exact (hW.1 r hr).1) ?_⟩
    conv => whnf
    rw [manyS_congr (g := σ 0) (fun k hk => (hA.1.1 k hk).1)]
    exact hK
  · have e : what = 1 := Int32.toInt_inj.mp (by rw [h, t1]; rfl)
    subst e
    rw [pit_neg (by decide), pit_pos rfl] at hK
    refine b_X8_count_57 hX ?_
    conv => whnf
    refine ⟨5, rfl, by decide, ?_⟩
    conv => whnf
    rw [w62 5 (by omega)]
    exact hK
  · have e : what = 2 := Int32.toInt_inj.mp (by rw [h, t2]; rfl)
    subst e
    rw [pit_neg (by decide), pit_neg (by decide), pit_pos rfl] at hK
    refine b_X8_count_64 hX ?_
    conv => whnf
    refine ⟨4, rfl, by decide, ?_⟩
    conv => whnf
    rw [w62 4 (by omega)]
    exact hK
  · have e : what = 3 := Int32.toInt_inj.mp (by rw [h, t3]; rfl)
    subst e
    rw [pit_neg (by decide), pit_neg (by decide), pit_neg (by decide), pit_pos rfl] at hK
    refine b_X8_count_71 hX ?_
    conv => whnf
    refine ⟨6, rfl, by decide, ?_⟩
    conv => whnf
    rw [w62 6 (by omega)]
    exact hK
  · have e : what = 4 := Int32.toInt_inj.mp (by rw [h, t4]; rfl)
    subst e
    rw [pit_neg (by decide), pit_neg (by decide), pit_neg (by decide), pit_neg (by decide), pit_pos rfl] at hK
    refine b_X8_count_79 hX ?_
    conv => whnf
    refine ⟨7, rfl, by decide, ?_⟩
    conv => whnf
    rw [w62 7 (by omega)]
    exact hK
  · have e : what = 5 := Int32.toInt_inj.mp (by rw [h, t5]; rfl)
    subst e
    rw [pit_neg (by decide), pit_neg (by decide), pit_neg (by decide), pit_neg (by decide), pit_neg (by decide), pit_pos rfl] at hK
    refine b_X8_count_87 hX ?_
    conv => whnf
    refine ⟨by omega, m_meanNow hC w62 pe p5 ?_⟩
    conv => whnf
    exact hK
  · have e : what = 6 := Int32.toInt_inj.mp (by rw [h, t6]; rfl)
    subst e
    rw [pit_neg (by decide), pit_neg (by decide), pit_neg (by decide), pit_neg (by decide), pit_neg (by decide), pit_neg (by decide), pit_pos rfl] at hK
    refine b_X8_count_92 hX ?_
    conv => whnf
    refine ⟨3, rfl, by decide, ?_⟩
    conv => whnf
    rw [w62 3 (by omega)]
    exact hK
  · have e : what = 7 := Int32.toInt_inj.mp (by rw [h, t7]; rfl)
    subst e
    rw [pit_neg (by decide), pit_neg (by decide), pit_neg (by decide), pit_neg (by decide), pit_neg (by decide), pit_neg (by decide), pit_neg (by decide), pit_pos rfl] at hK
    refine b_X8_count_99 hX ?_
    conv => whnf
    rw [hA.2.2.2.1.1]
    exact hK
  · have e : what = 8 := Int32.toInt_inj.mp (by rw [h, t8]; rfl)
    subst e
    rw [pit_neg (by decide), pit_neg (by decide), pit_neg (by decide), pit_neg (by decide), pit_neg (by decide), pit_neg (by decide), pit_neg (by decide), pit_neg (by decide), pit_pos rfl] at hK
    refine b_X8_count_104 hX ?_
    conv => whnf
    rw [hA.2.2.1.1]
    exact hK
theorem q10 {C : CC} (hC : Clo C) {d : Nat} (hd : 1 ≤ d) {M : MT} {K : KT} {t p : Nat} (h1 : M 61 25 = nI t) (ht : t + 1 ≤ 16) (hp : p < 5) (hK : K (some (.int (M 62 (26 + p)))) (tr 75 61 25 M t [10])) : C d 192 [.ref 61, .int (nI p)] M K := by
  refine g_X8_bareSize hC (fun X hX => ?_)
  refine b_X8_bareSize_0 hX ?_
  conv => whnf
  refine ⟨by omega, c_leaves hC h1 (by omega) ?_⟩
  conv => whnf
  refine ⟨26 + p, (by simp only [lit_nI, nI_add, nI_mul]), by omega, ?_⟩
  conv => whnf
  rw [wr_off (by decide), wr_off (by decide)]
  exact hK
theorem q20 {C : CC} (hC : Clo C) {d : Nat} (hd : 1 ≤ d) {M : MT} {K : KT} {t p : Nat} (h1 : M 61 25 = nI t) (ht : t + 1 ≤ 16) (hp : p < 5) (hK : K (some (.int (nI p))) (tr 75 61 25 M t [20])) : C d 193 [.ref 61, .int (nI p)] M K := by
  refine g_X8_bareMark hC (fun X hX => ?_)
  refine b_X8_bareMark_0 hX ?_
  conv => whnf
  refine ⟨by omega, c_leaves hC h1 (by omega) ?_⟩
  conv => whnf
  exact hK
theorem q21 {C : CC} (hC : Clo C) {d : Nat} (hd : 2 ≤ d) {M : MT} {K : KT} {t p : Nat} (h1 : M 61 25 = nI t) (ht : t + 2 ≤ 16) (hp : p < 5) (hK : K (some (.int (nI p + M 62 (31 + p)))) (tr 75 61 25 M t [21, 20])) : C d 194 [.ref 61, .int (nI p)] M K := by
  refine g_X8_steadyMark hC (fun X hX => ?_)
  refine b_X8_steadyMark_0 hX ?_
  conv => whnf
  refine ⟨by omega, c_leaves hC h1 (by omega) ?_⟩
  conv => whnf
  refine ⟨by omega, q20 hC (by omega) wr_at (by omega) hp ?_⟩
  conv => whnf
  refine ⟨31 + p, (by simp only [lit_nI, nI_add, nI_mul]), by omega, ?_⟩
  conv => whnf
  rw [tr_off (by decide) (by decide), wr_off (by decide), wr_off (by decide)]
  exact hK
theorem q13 {C : CC} (hC : Clo C) {d : Nat} (hd : 2 ≤ d) {M : MT} {K : KT} {t p : Nat} (h1 : M 61 25 = nI t) (ht : t + 2 ≤ 16) (hp : p < 5) (hK : K (some (.int (M 62 (26 + p) - 100))) (tr 75 61 25 M t [13, 10])) : C d 197 [.ref 61, .int (nI p)] M K := by
  refine g_X8_clickedSize hC (fun X hX => ?_)
  refine b_X8_clickedSize_0 hX ?_
  conv => whnf
  refine ⟨by omega, c_leaves hC h1 (by omega) ?_⟩
  conv => whnf
  refine ⟨by omega, q10 hC (by omega) wr_at (by omega) hp ?_⟩
  conv => whnf
  rw [wr_off (by decide), wr_off (by decide)]
  exact hK
theorem qs1 {C : CC} (hC : Clo C) {d : Nat} (hd : 3 ≤ d) {M : MT} {K : KT} {t p : Nat} (h1 : M 61 25 = nI t) (ht : t + 2 ≤ 16) (hp : p < 5) (hs : M 62 (21 + p) = 1) (hK : K (some (.int (nI p + M 62 (31 + p)))) (tr 75 61 25 M t [21, 20])) : C d 195 [.ref 61, .int (nI p)] M K := by
  refine g_X8_markOfSteady hC (fun X hX => ?_)
  refine b_X8_markOfSteady_0 hX ?_
  conv => whnf
  refine ⟨21 + p, (by simp only [lit_nI, nI_add, nI_mul]), by omega, ?_⟩
  conv => whnf
  rw [hs]
  refine ⟨fun _ => ?_, fun z => absurd z (by decide)⟩
  refine b_X8_markOfSteady_27 hX ?_
  conv => whnf
  refine ⟨21 + p, (by simp only [lit_nI, nI_add, nI_mul]), by omega, ?_⟩
  conv => whnf
  rw [hs]
  refine ⟨fun _ => ?_, fun z => absurd z (by decide)⟩
  refine b_X8_markOfSteady_56 hX ?_
  conv => whnf
  refine ⟨by omega, q21 hC (by omega) h1 (by omega) hp ?_⟩
  conv => whnf
  exact hK
theorem qs2 {C : CC} (hC : Clo C) {d : Nat} (hd : 3 ≤ d) {M : MT} {K : KT} {t p : Nat} (h1 : M 61 25 = nI t) (ht : t + 3 ≤ 16) (hp : p < 5) (hs : M 62 (21 + p) = 2) (hK : K (some (.int (2 * (nI p + M 62 (31 + p))))) (tr 75 61 25 M t [24, 21, 20])) : C d 195 [.ref 61, .int (nI p)] M K := by
  refine g_X8_markOfSteady hC (fun X hX => ?_)
  refine b_X8_markOfSteady_0 hX ?_
  conv => whnf
  refine ⟨21 + p, (by simp only [lit_nI, nI_add, nI_mul]), by omega, ?_⟩
  conv => whnf
  rw [hs]
  refine ⟨fun z => absurd rfl z, fun _ => ?_⟩
  conv => whnf
  refine ⟨by omega, c_leaves hC h1 (by omega) ?_⟩
  conv => whnf
  refine ⟨by omega, q21 hC (by omega) wr_at (by omega) hp ?_⟩
  conv => whnf
  rw [wr_off (by decide), wr_off (by decide)]
  exact hK
theorem qs3 {C : CC} (hC : Clo C) {d : Nat} (hd : 3 ≤ d) {M : MT} {K : KT} {t p : Nat} (h1 : M 61 25 = nI t) (ht : t + 3 ≤ 16) (hp : p < 5) (hs : M 62 (21 + p) = 3) (hK : K (some (.int (nI p + M 62 (31 + p) - 1000))) (tr 75 61 25 M t [22, 21, 20])) : C d 195 [.ref 61, .int (nI p)] M K := by
  refine g_X8_markOfSteady hC (fun X hX => ?_)
  refine b_X8_markOfSteady_0 hX ?_
  conv => whnf
  refine ⟨21 + p, (by simp only [lit_nI, nI_add, nI_mul]), by omega, ?_⟩
  conv => whnf
  rw [hs]
  refine ⟨fun _ => ?_, fun z => absurd z (by decide)⟩
  refine b_X8_markOfSteady_27 hX ?_
  conv => whnf
  refine ⟨21 + p, (by simp only [lit_nI, nI_add, nI_mul]), by omega, ?_⟩
  conv => whnf
  rw [hs]
  refine ⟨fun z => absurd rfl z, fun _ => ?_⟩
  conv => whnf
  refine ⟨by omega, c_leaves hC h1 (by omega) ?_⟩
  conv => whnf
  refine ⟨by omega, q21 hC (by omega) wr_at (by omega) hp ?_⟩
  conv => whnf
  rw [wr_off (by decide), wr_off (by decide)]
  exact hK
theorem q11_1 {C : CC} (hC : Clo C) {d : Nat} (hd : 4 ≤ d) {M : MT} {K : KT} {t p : Nat} (h1 : M 61 25 = nI t) (ht : t + 4 ≤ 16) (hp : p < 5) (hs : M 62 (21 + p) = 1) (hK : K (some (.int (M 62 (26 + p) + (nI p + M 62 (31 + p))))) (tr 75 61 25 M t [11, 10, 21, 20])) : C d 196 [.ref 61, .int (nI p)] M K := by
  refine g_X8_steadySize hC (fun X hX => ?_)
  refine b_X8_steadySize_0 hX ?_
  conv => whnf
  refine ⟨by omega, c_leaves hC h1 (by omega) ?_⟩
  conv => whnf
  refine ⟨by omega, q10 hC (by omega) wr_at (by omega) hp ?_⟩
  conv => whnf
  refine ⟨by omega, qs1 hC (by omega) (t := t + 2) (tr_n (l := [10]) wr_at) (by omega) hp (by rw [tr_off (by decide) (by decide), wr_off (by decide), wr_off (by decide)]; exact hs) ?_⟩
  conv => whnf
  rw [tr_off (by decide) (by decide), wr_off (by decide), wr_off (by decide)]
  exact hK
theorem q11_2 {C : CC} (hC : Clo C) {d : Nat} (hd : 4 ≤ d) {M : MT} {K : KT} {t p : Nat} (h1 : M 61 25 = nI t) (ht : t + 5 ≤ 16) (hp : p < 5) (hs : M 62 (21 + p) = 2) (hK : K (some (.int (M 62 (26 + p) + 2 * (nI p + M 62 (31 + p))))) (tr 75 61 25 M t [11, 10, 24, 21, 20])) : C d 196 [.ref 61, .int (nI p)] M K := by
  refine g_X8_steadySize hC (fun X hX => ?_)
  refine b_X8_steadySize_0 hX ?_
  conv => whnf
  refine ⟨by omega, c_leaves hC h1 (by omega) ?_⟩
  conv => whnf
  refine ⟨by omega, q10 hC (by omega) wr_at (by omega) hp ?_⟩
  conv => whnf
  refine ⟨by omega, qs2 hC (by omega) (t := t + 2) (tr_n (l := [10]) wr_at) (by omega) hp (by rw [tr_off (by decide) (by decide), wr_off (by decide), wr_off (by decide)]; exact hs) ?_⟩
  conv => whnf
  rw [tr_off (by decide) (by decide), wr_off (by decide), wr_off (by decide)]
  exact hK
theorem q11_3 {C : CC} (hC : Clo C) {d : Nat} (hd : 4 ≤ d) {M : MT} {K : KT} {t p : Nat} (h1 : M 61 25 = nI t) (ht : t + 5 ≤ 16) (hp : p < 5) (hs : M 62 (21 + p) = 3) (hK : K (some (.int (M 62 (26 + p) + (nI p + M 62 (31 + p) - 1000)))) (tr 75 61 25 M t [11, 10, 22, 21, 20])) : C d 196 [.ref 61, .int (nI p)] M K := by
  refine g_X8_steadySize hC (fun X hX => ?_)
  refine b_X8_steadySize_0 hX ?_
  conv => whnf
  refine ⟨by omega, c_leaves hC h1 (by omega) ?_⟩
  conv => whnf
  refine ⟨by omega, q10 hC (by omega) wr_at (by omega) hp ?_⟩
  conv => whnf
  refine ⟨by omega, qs3 hC (by omega) (t := t + 2) (tr_n (l := [10]) wr_at) (by omega) hp (by rw [tr_off (by decide) (by decide), wr_off (by decide), wr_off (by decide)]; exact hs) ?_⟩
  conv => whnf
  rw [tr_off (by decide) (by decide), wr_off (by decide), wr_off (by decide)]
  exact hK
theorem qz1 {C : CC} (hC : Clo C) {d : Nat} (hd : 5 ≤ d) {M : MT} {K : KT} {t p : Nat} (h1 : M 61 25 = nI t) (ht : t + 4 ≤ 16) (hp : p < 5) (hs : M 62 (21 + p) = 1) (hK : K (some (.int (M 62 (26 + p) + (nI p + M 62 (31 + p))))) (tr 75 61 25 M t [11, 10, 21, 20])) : C d 198 [.ref 61, .int (nI p)] M K := by
  refine g_X8_sizeOf hC (fun X hX => ?_)
  refine b_X8_sizeOf_0 hX ?_
  conv => whnf
  refine ⟨21 + p, (by simp only [lit_nI, nI_add, nI_mul]), by omega, ?_⟩
  conv => whnf
  rw [hs]
  refine ⟨fun h => ?_, fun h => absurd h (by decide), fun h => absurd h (by decide), fun h => absurd h (by decide), fun h => absurd h (by decide), trivial⟩
  refine b_X8_sizeOf_73 hX ?_
  conv => whnf
  refine ⟨by omega, q11_1 hC (by omega) h1 (by omega) hp hs ?_⟩
  conv => whnf
  exact hK
theorem qz2 {C : CC} (hC : Clo C) {d : Nat} (hd : 5 ≤ d) {M : MT} {K : KT} {t p : Nat} (h1 : M 61 25 = nI t) (ht : t + 6 ≤ 16) (hp : p < 5) (hs : M 62 (21 + p) = 2) (hK : K (some (.int (-(M 62 (26 + p) + 2 * (nI p + M 62 (31 + p)))))) (tr 75 61 25 M t [12, 11, 10, 24, 21, 20])) : C d 198 [.ref 61, .int (nI p)] M K := by
  refine g_X8_sizeOf hC (fun X hX => ?_)
  refine b_X8_sizeOf_0 hX ?_
  conv => whnf
  refine ⟨21 + p, (by simp only [lit_nI, nI_add, nI_mul]), by omega, ?_⟩
  conv => whnf
  rw [hs]
  refine ⟨fun h => absurd h (by decide), fun _ => ?_, fun h => absurd h (by decide), fun h => absurd h (by decide), fun h => absurd h (by decide), trivial⟩
  refine b_X8_sizeOf_40 hX ?_
  conv => whnf
  refine ⟨by omega, c_leaves hC h1 (by omega) ?_⟩
  conv => whnf
  refine ⟨by omega, q11_2 hC (by omega) wr_at (by omega) hp (by rw [wr_off (by decide), wr_off (by decide)]; exact hs) ?_⟩
  conv => whnf
  rw [wr_off (by decide), wr_off (by decide)]
  exact hK
theorem qz3 {C : CC} (hC : Clo C) {d : Nat} (hd : 5 ≤ d) {M : MT} {K : KT} {t p : Nat} (h1 : M 61 25 = nI t) (ht : t + 5 ≤ 16) (hp : p < 5) (hs : M 62 (21 + p) = 3) (hK : K (some (.int (M 62 (26 + p) + (nI p + M 62 (31 + p) - 1000)))) (tr 75 61 25 M t [11, 10, 22, 21, 20])) : C d 198 [.ref 61, .int (nI p)] M K := by
  refine g_X8_sizeOf hC (fun X hX => ?_)
  refine b_X8_sizeOf_0 hX ?_
  conv => whnf
  refine ⟨21 + p, (by simp only [lit_nI, nI_add, nI_mul]), by omega, ?_⟩
  conv => whnf
  rw [hs]
  refine ⟨fun h => absurd h (by decide), fun h => absurd h (by decide), fun _ => ?_, fun h => absurd h (by decide), fun h => absurd h (by decide), trivial⟩
  refine b_X8_sizeOf_73 hX ?_
  conv => whnf
  refine ⟨by omega, q11_3 hC (by omega) h1 (by omega) hp hs ?_⟩
  conv => whnf
  exact hK
theorem qz4 {C : CC} (hC : Clo C) {d : Nat} (hd : 3 ≤ d) {M : MT} {K : KT} {t p : Nat} (h1 : M 61 25 = nI t) (ht : t + 2 ≤ 16) (hp : p < 5) (hs : M 62 (21 + p) = 4) (hK : K (some (.int (M 62 (26 + p) - 100))) (tr 75 61 25 M t [13, 10])) : C d 198 [.ref 61, .int (nI p)] M K := by
  refine g_X8_sizeOf hC (fun X hX => ?_)
  refine b_X8_sizeOf_0 hX ?_
  conv => whnf
  refine ⟨21 + p, (by simp only [lit_nI, nI_add, nI_mul]), by omega, ?_⟩
  conv => whnf
  rw [hs]
  refine ⟨fun h => absurd h (by decide), fun h => absurd h (by decide), fun h => absurd h (by decide), fun _ => ?_, fun h => absurd h (by decide), trivial⟩
  refine b_X8_sizeOf_53 hX ?_
  conv => whnf
  refine ⟨by omega, q13 hC (by omega) h1 (by omega) hp ?_⟩
  conv => whnf
  exact hK
theorem qz5 {C : CC} (hC : Clo C) {d : Nat} (hd : 3 ≤ d) {M : MT} {K : KT} {t p : Nat} (h1 : M 61 25 = nI t) (ht : t + 3 ≤ 16) (hp : p < 5) (hs : M 62 (21 + p) = 5) (hK : K (some (.int (2 * (M 62 (26 + p) - 100)))) (tr 75 61 25 M t [14, 13, 10])) : C d 198 [.ref 61, .int (nI p)] M K := by
  refine g_X8_sizeOf hC (fun X hX => ?_)
  refine b_X8_sizeOf_0 hX ?_
  conv => whnf
  refine ⟨21 + p, (by simp only [lit_nI, nI_add, nI_mul]), by omega, ?_⟩
  conv => whnf
  rw [hs]
  refine ⟨fun h => absurd h (by decide), fun h => absurd h (by decide), fun h => absurd h (by decide), fun h => absurd h (by decide), fun _ => ?_, trivial⟩
  refine b_X8_sizeOf_59 hX ?_
  conv => whnf
  refine ⟨by omega, c_leaves hC h1 (by omega) ?_⟩
  conv => whnf
  refine ⟨by omega, q13 hC (by omega) wr_at (by omega) hp ?_⟩
  conv => whnf
  rw [wr_off (by decide), wr_off (by decide)]
  exact hK
theorem qm1 {C : CC} (hC : Clo C) {d : Nat} (hd : 4 ≤ d) {M : MT} {K : KT} {t p : Nat} (h1 : M 61 25 = nI t) (ht : t + 2 ≤ 16) (hp : p < 5) (hs : M 62 (21 + p) = 1) (hK : K (some (.int ((nI p + M 62 (31 + p))))) (tr 75 61 25 M t [21, 20])) : C d 199 [.ref 61, .int (nI p)] M K := by
  refine g_X8_markOf hC (fun X hX => ?_)
  refine b_X8_markOf_0 hX ?_
  conv => whnf
  refine ⟨21 + p, (by simp only [lit_nI, nI_add, nI_mul]), by omega, ?_⟩
  conv => whnf
  rw [hs]
  refine ⟨fun z => absurd z (by decide), fun _ => ?_⟩
  conv => whnf
  refine ⟨by omega, qs1 hC (by omega) h1 (by omega) hp hs ?_⟩
  conv => whnf
  exact hK
theorem qm2 {C : CC} (hC : Clo C) {d : Nat} (hd : 4 ≤ d) {M : MT} {K : KT} {t p : Nat} (h1 : M 61 25 = nI t) (ht : t + 3 ≤ 16) (hp : p < 5) (hs : M 62 (21 + p) = 2) (hK : K (some (.int (2 * (nI p + M 62 (31 + p))))) (tr 75 61 25 M t [24, 21, 20])) : C d 199 [.ref 61, .int (nI p)] M K := by
  refine g_X8_markOf hC (fun X hX => ?_)
  refine b_X8_markOf_0 hX ?_
  conv => whnf
  refine ⟨21 + p, (by simp only [lit_nI, nI_add, nI_mul]), by omega, ?_⟩
  conv => whnf
  rw [hs]
  refine ⟨fun z => absurd z (by decide), fun _ => ?_⟩
  conv => whnf
  refine ⟨by omega, qs2 hC (by omega) h1 (by omega) hp hs ?_⟩
  conv => whnf
  exact hK
theorem qm3 {C : CC} (hC : Clo C) {d : Nat} (hd : 4 ≤ d) {M : MT} {K : KT} {t p : Nat} (h1 : M 61 25 = nI t) (ht : t + 3 ≤ 16) (hp : p < 5) (hs : M 62 (21 + p) = 3) (hK : K (some (.int ((nI p + M 62 (31 + p) - 1000)))) (tr 75 61 25 M t [22, 21, 20])) : C d 199 [.ref 61, .int (nI p)] M K := by
  refine g_X8_markOf hC (fun X hX => ?_)
  refine b_X8_markOf_0 hX ?_
  conv => whnf
  refine ⟨21 + p, (by simp only [lit_nI, nI_add, nI_mul]), by omega, ?_⟩
  conv => whnf
  rw [hs]
  refine ⟨fun z => absurd z (by decide), fun _ => ?_⟩
  conv => whnf
  refine ⟨by omega, qs3 hC (by omega) h1 (by omega) hp hs ?_⟩
  conv => whnf
  exact hK
theorem qm4 {C : CC} (hC : Clo C) {d : Nat} (hd : 5 ≤ d) {M : MT} {K : KT} {t p : Nat} (h1 : M 61 25 = nI t) (ht : t + 4 ≤ 16) (hp : p < 5) (hs : M 62 (21 + p) = 4) (hK : K (some (.int (nI p - (M 62 (26 + p) - 100)))) (tr 75 61 25 M t [23, 20, 13, 10])) : C d 199 [.ref 61, .int (nI p)] M K := by
  refine g_X8_markOf hC (fun X hX => ?_)
  refine b_X8_markOf_0 hX ?_
  conv => whnf
  refine ⟨21 + p, (by simp only [lit_nI, nI_add, nI_mul]), by omega, ?_⟩
  conv => whnf
  rw [hs]
  refine ⟨fun _ => ?_, fun z => absurd (by decide) z⟩
  refine b_X8_markOf_19 hX ?_
  conv => whnf
  refine ⟨by omega, c_leaves hC h1 (by omega) ?_⟩
  conv => whnf
  refine ⟨by omega, q20 hC (by omega) wr_at (by omega) hp ?_⟩
  conv => whnf
  refine ⟨by omega, qz4 hC (by omega) (t := t + 2) (tr_n (l := [20]) wr_at) (by omega) hp (by rw [tr_off (by decide) (by decide), wr_off (by decide), wr_off (by decide)]; exact hs) ?_⟩
  conv => whnf
  rw [tr_off (by decide) (by decide), wr_off (by decide), wr_off (by decide)]
  exact hK
theorem qm5 {C : CC} (hC : Clo C) {d : Nat} (hd : 5 ≤ d) {M : MT} {K : KT} {t p : Nat} (h1 : M 61 25 = nI t) (ht : t + 5 ≤ 16) (hp : p < 5) (hs : M 62 (21 + p) = 5) (hK : K (some (.int (nI p - 2 * (M 62 (26 + p) - 100)))) (tr 75 61 25 M t [23, 20, 14, 13, 10])) : C d 199 [.ref 61, .int (nI p)] M K := by
  refine g_X8_markOf hC (fun X hX => ?_)
  refine b_X8_markOf_0 hX ?_
  conv => whnf
  refine ⟨21 + p, (by simp only [lit_nI, nI_add, nI_mul]), by omega, ?_⟩
  conv => whnf
  rw [hs]
  refine ⟨fun _ => ?_, fun z => absurd (by decide) z⟩
  refine b_X8_markOf_19 hX ?_
  conv => whnf
  refine ⟨by omega, c_leaves hC h1 (by omega) ?_⟩
  conv => whnf
  refine ⟨by omega, q20 hC (by omega) wr_at (by omega) hp ?_⟩
  conv => whnf
  refine ⟨by omega, qz5 hC (by omega) (t := t + 2) (tr_n (l := [20]) wr_at) (by omega) hp (by rw [tr_off (by decide) (by decide), wr_off (by decide), wr_off (by decide)]; exact hs) ?_⟩
  conv => whnf
  rw [tr_off (by decide) (by decide), wr_off (by decide), wr_off (by decide)]
  exact hK
theorem mo_ask {C : CC} (hC : Clo C) {d : Nat} (hd : 10 ≤ d) {σ M : MT} {K : KT} {p what : Int32} (hA : AM σ M) (hW : WF σ) (hK : ∀ M1, AM (askR σ p what).2 M1 → Fm M M1 61 75 → K (some (.int (askR σ p what).1)) M1) : C d 200 [.ref 61, .int p, .int what] M K := by
  obtain ⟨pe, p5, pw, p0⟩ := hW.pl
  have e5 : M 62 5 = nI (nP (σ 5)) := (hA.2.2.2.2.1 5 (by omega)).1.trans pe
  have w62 : ∀ k, k < 61 → M 62 k = σ 5 k := fun k hk => (hA.2.2.2.2.1 k hk).1
  unfold askR at hK
  refine g_X8_ask hC (fun X hX => ?_)
  have bB : ¬ (isPl (nP (σ 5)) p ∧ (0 ≤ what ∧ what ≤ 1)) → X 18 [some (.ref 61), some (.int p), some (.int what)] [] M := fun q => by
    rw [pit_neg q] at hK
    refine b_X8_ask_18 hX ?_
    conv => whnf
    exact hK M hA Fm.rf
  refine b_X8_ask_0 hX ?_
  conv => whnf
  refine ⟨by omega, m_isPlayer hC (by omega) e5 p5 (fun i hi ei => ?_) (fun q => ?_)⟩
  rotate_left
  · conv => whnf
    exact ⟨fun _ => bB (fun z => q z.1), fun z => absurd rfl z⟩
  conv => whnf
  refine ⟨fun q => absurd q (by decide), fun _ => ?_⟩
  conv => whnf
  refine ⟨by omega, m_in hC (fun a0 b0 => ?_) (fun q => ?_)⟩
  rotate_left
  · conv => whnf
    exact ⟨fun z => absurd rfl z, fun _ => bB (fun z => q z.2)⟩
  rw [pit_pos ⟨⟨i, hi, ei⟩, a0, b0⟩] at hK
  subst ei
  rw [tN_nI (by omega)] at hK
  obtain ⟨k, k1, k2, k3⟩ := (pw (by omega)).kinds i hi
  rw [k3, tN_nI (by omega)] at hK
  conv => whnf
  refine ⟨fun _ => ?_, fun z => absurd z (by decide)⟩
  refine b_X8_ask_21 hX ?_
  conv => whnf
  have m62 : wr M 61 25 0 62 = M 62 := wr_off (by decide)
  have m1 : wr M 61 25 0 61 25 = nI 0 := wr_at
  have fin : ∀ l v, l = trL k what → v = trV k what (σ 5 (26 + i)) (nI i) (σ 5 (31 + i)) → K (some (.int v)) (tr 75 61 25 (wr M 61 25 0) 0 l) := by
    rintro l v rfl rfl
    refine hK _ (hA.tr (fun q z1 z2 => by rw [tr_off z2 z1, wr_off z1]) (fun j hj => by rw [tr_o (by decide) hj, wr_ne hj]) (by rw [tr_n m1, Nat.zero_add]) (fun j hj => ?_)) (fun q hq => by rw [tr_off (by omega) (by omega), wr_off (by omega)])
    rw [tr_a (by decide), wr_off (by decide)]
    exact wl8_congr (fun j hj => hA.2.2.2.2.2.1.2 j hj) j hj
  have hk : k = 1 ∨ k = 2 ∨ k = 3 ∨ k = 4 ∨ k = 5 := by omega
  have hs : ∀ j : Int32, nI k = j → wr M 61 25 0 62 (21 + i) = j := fun j hj => by rw [m62, w62 (21 + i) (by omega), k3]; exact hj
  refine ⟨fun w0 => ?_, fun w0 => ?_⟩
  · have w1 : what = 1 := by
      obtain ⟨j, j1, j2, rfl⟩ := rngL (lo := 0) (hi := 1) (by omega) a0 b0 (by omega)
      have : j ≠ 0 := fun z => w0 (by rw [z]; rfl)
      have : j = 1 := by omega
      rw [this]; rfl
    subst w1
    refine b_X8_ask_38 hX ?_
    conv => whnf
    rcases hk with rfl | rfl | rfl | rfl | rfl
    · refine ⟨by omega, qm1 hC (by omega) m1 (by omega) (by omega) (hs _ rfl) ?_⟩
      conv => whnf
      refine b_X8_ask_43 hX ?_
      conv => whnf
      exact fin _ _ rfl (by rw [m62, w62 (31 + i) (by omega)]; rfl)
    · refine ⟨by omega, qm2 hC (by omega) m1 (by omega) (by omega) (hs _ rfl) ?_⟩
      conv => whnf
      refine b_X8_ask_43 hX ?_
      conv => whnf
      exact fin _ _ rfl (by rw [m62, w62 (31 + i) (by omega)]; rfl)
    · refine ⟨by omega, qm3 hC (by omega) m1 (by omega) (by omega) (hs _ rfl) ?_⟩
      conv => whnf
      refine b_X8_ask_43 hX ?_
      conv => whnf
      exact fin _ _ rfl (by rw [m62, w62 (31 + i) (by omega)]; rfl)
    · refine ⟨by omega, qm4 hC (by omega) m1 (by omega) (by omega) (hs _ rfl) ?_⟩
      conv => whnf
      refine b_X8_ask_43 hX ?_
      conv => whnf
      exact fin _ _ rfl (by rw [m62, w62 (26 + i) (by omega)]; rfl)
    · refine ⟨by omega, qm5 hC (by omega) m1 (by omega) (by omega) (hs _ rfl) ?_⟩
      conv => whnf
      refine b_X8_ask_43 hX ?_
      conv => whnf
      exact fin _ _ rfl (by rw [m62, w62 (26 + i) (by omega)]; rfl)
  · subst w0
    conv => whnf
    rcases hk with rfl | rfl | rfl | rfl | rfl
    · refine ⟨by omega, qz1 hC (by omega) m1 (by omega) (by omega) (hs _ rfl) ?_⟩
      conv => whnf
      exact fin _ _ rfl (by rw [m62, w62 (26 + i) (by omega), w62 (31 + i) (by omega)]; rfl)
    · refine ⟨by omega, qz2 hC (by omega) m1 (by omega) (by omega) (hs _ rfl) ?_⟩
      conv => whnf
      exact fin _ _ rfl (by rw [m62, w62 (26 + i) (by omega), w62 (31 + i) (by omega)]; rfl)
    · refine ⟨by omega, qz3 hC (by omega) m1 (by omega) (by omega) (hs _ rfl) ?_⟩
      conv => whnf
      exact fin _ _ rfl (by rw [m62, w62 (26 + i) (by omega), w62 (31 + i) (by omega)]; rfl)
    · refine ⟨by omega, qz4 hC (by omega) m1 (by omega) (by omega) (hs _ rfl) ?_⟩
      conv => whnf
      exact fin _ _ rfl (by rw [m62, w62 (26 + i) (by omega)]; rfl)
    · refine ⟨by omega, qz5 hC (by omega) m1 (by omega) (by omega) (hs _ rfl) ?_⟩
      conv => whnf
      exact fin _ _ rfl (by rw [m62, w62 (26 + i) (by omega)]; rfl)
