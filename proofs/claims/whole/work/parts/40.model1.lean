/-! THE REFERENCE: small methods, rows -/
theorem lg_lt {x y : Int32} : lg_cmp x.toInt64 y.toInt64 < 0 ↔ x < y := by
  unfold lg_cmp
  have e1 : x.toInt64 > y.toInt64 ↔ y < x := by
    rw [gt_iff_lt, Int64.lt_iff_toInt_lt, Int32.toInt_toInt64, Int32.toInt_toInt64, Int32.lt_iff_toInt_lt]
  have e2 : x.toInt64 = y.toInt64 ↔ x = y := by
    rw [← Int64.toInt_inj, Int32.toInt_toInt64, Int32.toInt_toInt64, Int32.toInt_inj]
  by_cases h1 : y < x
  · rw [if_pos (e1.mpr h1)]
    exact ⟨fun z => absurd z (by decide), fun z => absurd (Int32.lt_trans h1 z) (Int32.lt_irrefl)⟩
  · rw [if_neg (fun z => h1 (e1.mp z))]
    by_cases h2 : x = y
    · rw [if_pos (e2.mpr h2)]
      exact ⟨fun z => absurd z (by decide), fun z => absurd z (by rw [h2]; exact Int32.lt_irrefl)⟩
    · rw [if_neg (fun z => h2 (e2.mp z))]
      refine ⟨fun _ => ?_, fun _ => by decide⟩
      rcases Int32.lt_or_eq_of_le (Int32.not_lt.mp h1) with z | z
      · exact z
      · exact absurd z h2
theorem lg_gt {x y : Int32} : 0 < lg_cmp x.toInt64 y.toInt64 ↔ y < x := by
  unfold lg_cmp
  have e1 : x.toInt64 > y.toInt64 ↔ y < x := by
    rw [gt_iff_lt, Int64.lt_iff_toInt_lt, Int32.toInt_toInt64, Int32.toInt_toInt64, Int32.lt_iff_toInt_lt]
  by_cases h1 : y < x
  · rw [if_pos (e1.mpr h1)]
    exact ⟨fun _ => h1, fun _ => by decide⟩
  · rw [if_neg (fun z => h1 (e1.mp z))]
    refine ⟨fun z => ?_, fun z => absurd z h1⟩
    split at z <;> exact absurd z (by decide)
theorem m_in {C : CC} (hC : Clo C) {d : Nat} {v lo hi : Int32} {M : MT} {K : KT} (h1 : lo ≤ v → v ≤ hi → K (some (.int 1)) M) (h0 : ¬ (lo ≤ v ∧ v ≤ hi) → K (some (.int 0)) M) : C d 121 [.long v.toInt64, .long lo.toInt64, .long hi.toInt64] M K := by
  refine g_X8_in hC (fun X hX => ?_)
  have b17 : ¬ (lo ≤ v ∧ v ≤ hi) → X 17 [some (.long v.toInt64), none, some (.long lo.toInt64), none, some (.long hi.toInt64), none] [] M := fun q => by
    refine b_X8_in_17 hX ?_
    conv => whnf
    refine b_X8_in_18 hX ?_
    conv => whnf
    exact ⟨Or.inl rfl, h0 q⟩
  refine b_X8_in_0 hX ?_
  conv => whnf
  rw [lg_lt]
  refine ⟨fun q => b17 (fun z => Int32.not_le.mpr q z.1), fun q => ?_⟩
  conv => whnf
  rw [lg_gt]
  refine ⟨fun q2 => b17 (fun z => Int32.not_le.mpr q2 z.2), fun q2 => ?_⟩
  conv => whnf
  exact ⟨Or.inr rfl, h1 (Int32.not_lt.mp q) (Int32.not_lt.mp q2)⟩
theorem m_plain {C : CC} (hC : Clo C) {d : Nat} {v : Int32} {M : MT} {K : KT} (h : K (some (.int (abs32 v))) M) : C d 122 [.int v] M K := by
  unfold abs32 at h
  refine g_X8_plain hC (fun X hX => ?_)
  refine b_X8_plain_0 hX ?_
  conv => whnf
  refine ⟨fun q => ?_, fun q => ?_⟩
  · rw [if_pos q] at h
    refine b_X8_plain_9 hX ?_
    conv => whnf
    refine b_X8_plain_10 hX ?_
    conv => whnf
    exact h
  · rw [if_neg q, Int32.zero_sub] at h
    conv => whnf
    exact h
theorem m_bound {C : CC} (hC : Clo C) {d : Nat} {v : Int32} {M : MT} {K : KT} (h : K (some (.int (boundS v))) M) : C d 123 [.int v] M K := by
  unfold boundS at h
  refine g_X8_bound hC (fun X hX => ?_)
  refine b_X8_bound_0 hX ?_
  conv => whnf
  refine ⟨fun q => ?_, fun q => ?_⟩
  · rw [if_neg (Int32.not_lt.mpr q)] at h
    refine b_X8_bound_13 hX ?_
    conv => whnf
    refine ⟨fun q2 => ?_, fun q2 => ?_⟩
    · rw [if_neg (Int32.not_lt.mpr q2)] at h
      refine b_X8_bound_26 hX ?_
      conv => whnf
      refine b_X8_bound_27 hX ?_
      conv => whnf
      exact h
    · rw [if_pos (Int32.not_le.mp q2)] at h
      conv => whnf
      exact h
  · rw [if_pos (Int32.not_le.mp q)] at h
    conv => whnf
    exact h
theorem m_found {C : CC} (hC : Clo C) {d : Nat} {M : MT} {K : KT} {f : Int32} (hK : K (some (.int (-1000010 - f))) (wr M 61 7 f)) : C d 124 [.ref 61, .int f] M K := by
  refine g_X8_found hC (fun X hX => ?_)
  refine b_X8_found_0 hX ?_
  conv => whnf
  exact hK
theorem m_well {C : CC} (hC : Clo C) {d : Nat} {M : MT} {K : KT} {x : Int32} (hK : K (some (.int x)) (wr M 61 7 0)) : C d 125 [.ref 61, .int x] M K := by
  refine g_X8_well hC (fun X hX => ?_)
  refine b_X8_well_0 hX ?_
  conv => whnf
  exact hK
theorem m_isRow {C : CC} (hC : Clo C) {d : Nat} (hd : 1 ≤ d) {M : MT} {K : KT} {x : Int32} (h1 : ∀ r, r < 8 → x = nI r → K (some (.int 1)) M) (h0 : ¬ isPl 8 x → K (some (.int 0)) M) : C d 126 [.int x] M K := by
  refine g_X8_isRow hC (fun X hX => ?_)
  refine b_X8_isRow_0 hX ?_
  conv => whnf
  refine ⟨by omega, m_in hC (fun a b => ?_) (fun q => ?_)⟩
  · conv => whnf
    obtain ⟨k, -, hk, e⟩ := rngL (lo := 0) (hi := 7) (by omega) a b (by omega)
    exact ⟨Or.inr rfl, h1 k (by omega) e⟩
  · conv => whnf
    refine ⟨Or.inl rfl, h0 ?_⟩
    rintro ⟨i, hi, rfl⟩
    exact q ⟨nI_pos' (by omega), (le_nI (b := 7) (by omega) (by omega)).mpr (by omega)⟩
theorem m_isPlayer {C : CC} (hC : Clo C) {d : Nat} (hd : 1 ≤ d) {M : MT} {K : KT} {P : Nat} {x : Int32} (hp : M 62 5 = nI P) (hP : P ≤ 5) (h1 : ∀ i, i < P → x = nI i → K (some (.int 1)) M) (h0 : ¬ isPl P x → K (some (.int 0)) M) : C d 158 [.ref 61, .int x] M K := by
  refine g_X8_isPlayer hC (fun X hX => ?_)
  refine b_X8_isPlayer_0 hX ?_
  conv => whnf
  refine ⟨5, rfl, by decide, ?_⟩
  conv => whnf
  rw [hp]
  refine ⟨by omega, m_in hC (fun a b => ?_) (fun q => ?_)⟩
  · conv => whnf
    obtain ⟨i, hi, e⟩ := (isPl_iff (by omega)).mp ⟨a, b⟩
    exact ⟨Or.inr rfl, h1 i hi e⟩
  · conv => whnf
    exact ⟨Or.inl rfl, h0 (fun z => q ((isPl_iff (by omega)).mpr z))⟩
theorem m_isNone {C : CC} (hC : Clo C) {d : Nat} {M : MT} {K : KT} (h1 : M 62 8 = 0 → K (some (.int 1)) M) (h0 : ¬ M 62 8 = 0 → K (some (.int 0)) M) : C d 159 [.ref 61] M K := by
  refine g_X8_isNone hC (fun X hX => ?_)
  refine b_X8_isNone_0 hX ?_
  conv => whnf
  refine ⟨8, rfl, by decide, ?_⟩
  conv => whnf
  refine ⟨fun q => ?_, fun q => ?_⟩
  · refine b_X8_isNone_14 hX ?_
    conv => whnf
    refine b_X8_isNone_15 hX ?_
    conv => whnf
    exact ⟨Or.inl rfl, h0 q⟩
  · conv => whnf
    exact ⟨Or.inr rfl, h1 q⟩
theorem m_cutTo {C : CC} (hC : Clo C) {d : Nat} {M : MT} {K : KT} {l v : Int32} (h : K (some (.int (cutS l v))) M) : C d 128 [.int l, .int v] M K := by
  unfold cutS at h
  refine g_X8_cutTo hC (fun X hX => ?_)
  refine b_X8_cutTo_0 hX ?_
  conv => whnf
  refine ⟨fun q => ?_, fun q => ?_⟩
  · rw [if_neg q] at h
    refine b_X8_cutTo_9 hX ?_
    conv => whnf
    refine ⟨fun q2 => ?_, fun q2 => ?_⟩
    · rw [if_neg q2] at h
      refine b_X8_cutTo_19 hX ?_
      conv => whnf
      refine b_X8_cutTo_20 hX ?_
      conv => whnf
      exact h
    · rw [if_pos q2] at h
      conv => whnf
      exact h
  · rw [if_pos q] at h
    conv => whnf
    exact h
theorem lane_neg {l : Int32} (h : l = -1 ∨ ∃ k, k ≤ 2 ∧ l = nI k) : l < 0 ↔ l = -1 := by
  rcases h with rfl | ⟨k, hk, rfl⟩
  · exact ⟨fun _ => rfl, fun _ => by decide⟩
  · exact ⟨fun z => absurd z (nI_pos (by omega)), fun z => by rw [z]; decide⟩
theorem against_le {s a c : Nat} (hs : s ≤ 40) (ha : a < 2147483648) (hc : c < 2147483648) : lg_cmp ((nI a).toInt64 + (nI c).toInt64) (nI s).toInt64 ≤ 0 ↔ a + c ≤ s := by
  have e : ((nI a).toInt64 + (nI c).toInt64).toInt = (a : Int) + c := by
    rw [Int64.toInt_add, Int32.toInt_toInt64, Int32.toInt_toInt64, nI_toInt ha, nI_toInt hc]
    exact Int.bmod_eq_of_le (by omega) (by omega)
  have e2 : (nI s).toInt64.toInt = (s : Int) := by rw [Int32.toInt_toInt64, nI_toInt (by omega)]
  unfold lg_cmp
  by_cases h1 : s < a + c
  · rw [if_pos (by rw [gt_iff_lt, Int64.lt_iff_toInt_lt, e, e2]; omega)]
    exact ⟨fun z => absurd z (by decide), fun z => by omega⟩
  · rw [if_neg (by rw [gt_iff_lt, Int64.lt_iff_toInt_lt, e, e2]; omega)]
    refine ⟨fun _ => by omega, fun _ => ?_⟩
    split <;> decide
theorem m_against {C : CC} (hC : Clo C) {d : Nat} {M : MT} {K : KT} {r s : Nat} {x y : Int32} (hr : r < 8) (hl : M 64 r = -1 ∨ ∃ k, k ≤ 2 ∧ M 64 r = nI k) (hs : M 65 r = nI s) (h40 : s ≤ 40) (hN : M 64 r = -1 → K (some (.int 1)) M) (h2 : ¬ M 64 r = -1 → ¬ HD s x y → K (some (.int 2)) M) (h0 : ¬ M 64 r = -1 → ∀ a c, x = nI a → y = nI c → a + c ≤ s → K (some (.int 0)) M) : C d 129 [.ref 61, .int (nI r), .int x, .int y] M K := by
  refine g_X8_against hC (fun X hX => ?_)
  refine b_X8_against_0 hX ?_
  conv => whnf
  refine ⟨r, rfl, hr, ?_⟩
  conv => whnf
  refine ⟨fun q => ?_, fun q => ?_⟩
  rotate_left
  · conv => whnf
    exact hN ((lane_neg hl).mp (Int32.not_le.mp q))
  have nl : ¬ M 64 r = -1 := fun z => by rw [z] at q; exact absurd q (by decide)
  have b37 : ¬ HD s x y → X 37 [some (.ref 61), some (.int (nI r)), some (.int x), some (.int y)] [] M := fun q => by
    refine b_X8_against_37 hX ?_
    conv => whnf
    exact h2 nl q
  refine b_X8_against_13 hX ?_
  conv => whnf
  refine ⟨fun q1 => b37 ?_, fun q1 => ?_⟩
  · rintro ⟨a, c, rfl, rfl, h⟩; exact nI_pos (by omega) q1
  conv => whnf
  refine ⟨fun q2 => b37 ?_, fun q2 => ?_⟩
  · rintro ⟨a, c, rfl, rfl, h⟩; exact nI_pos (by omega) q2
  conv => whnf
  refine ⟨r, rfl, hr, ?_⟩
  conv => whnf
  obtain ⟨a, ha, rfl⟩ := nI_of q1
  obtain ⟨c, hc, rfl⟩ := nI_of q2
  rw [hs, against_le h40 ha hc]
  refine ⟨fun q3 => ?_, fun q3 => ?_⟩
  · refine b_X8_against_41 hX ?_
    conv => whnf
    refine b_X8_against_42 hX ?_
    conv => whnf
    exact h0 nl a c rfl rfl q3
  · refine b37 ?_
    rintro ⟨a', c', e1, e2, h⟩
    have := (eq_nI ha (by omega)).mp e1
    have := (eq_nI hc (by omega)).mp e2
    omega
theorem mo_row {C : CC} (hC : Clo C) {d : Nat} (hd : 8 ≤ d) {σ M : MT} {K : KT} {row lane n : Int32} (hA : AM σ M) (hK : ∀ M1, AM (rowR σ row lane n).2 M1 → Fm M M1 61 75 → K (some (.int (rowR σ row lane n).1)) M1) : C d 127 [.ref 61, .int row, .int lane, .int n] M K := by
  unfold rowR at hK
  refine g_X8_row hC (fun X hX => ?_)
  have b25 : ¬ (isPl 8 row ∧ (0 ≤ lane ∧ lane ≤ 2) ∧ n ≤ 40) → X 25 [some (.ref 61), some (.int row), some (.int lane), some (.int n), none] [] M := fun q => by
    rw [pit_neg q] at hK
    refine b_X8_row_25 hX ?_
    conv => whnf
    exact hK M hA Fm.rf
  refine b_X8_row_0 hX ?_
  conv => whnf
  refine ⟨by omega, m_isRow hC (by omega) (fun r hr er => ?_) (fun q => ?_)⟩
  rotate_left
  · conv => whnf
    exact ⟨fun _ => b25 (fun z => q z.1), fun z => absurd rfl z⟩
  conv => whnf
  refine ⟨fun q => absurd q (by decide), fun _ => ?_⟩
  conv => whnf
  refine ⟨by omega, m_in hC (fun l1 l2 => ?_) (fun q => ?_)⟩
  rotate_left
  · conv => whnf
    exact ⟨fun _ => b25 (fun z => q z.2.1), fun z => absurd rfl z⟩
  conv => whnf
  refine ⟨fun q => absurd q (by decide), fun _ => ?_⟩
  conv => whnf
  refine ⟨fun q => ?_, fun q => b25 (fun z => q z.2.2)⟩
  rw [pit_pos ⟨⟨r, hr, er⟩, ⟨l1, l2⟩, q⟩] at hK
  subst er
  rw [tN_nI (by omega)] at hK
  refine b_X8_row_28 hX ?_
  conv => whnf
  refine ⟨fun n0 => ?_, fun n0 => ?_⟩
  rotate_left
  · rw [pit_pos (Int32.not_le.mp n0)] at hK
    conv => whnf
    refine ⟨by omega, m_found hC ?_⟩
    conv => whnf
    exact hK _ hA.st (Fm.wr Fm.rf (by decide) (by decide))
  rw [pit_neg (Int32.not_lt.mpr n0)] at hK
  have loop : ∀ (m k : Nat) (M' : MT), k + m = 40 → M' 64 = upd (M 64) r lane → M' 65 = upd (M 65) r n → (∀ i, M' 66 i = zer (M 66) r k i) → Fm M M' 64 67 → X 55 [some (.ref 61), some (.int (nI r)), some (.int lane), some (.int n), some (.int (nI k))] [] M' := by
    intro m
    induction m with
    | zero =>
      intro k M' hk h1 h2 h3 h4
      have hk : k = 40 := by omega
      subst hk
      refine b_X8_row_55 hX ?_
      conv => whnf
      refine ⟨fun q => ?_, fun q => absurd (by decide) q⟩
      refine b_X8_row_81 hX ?_
      conv => whnf
      refine ⟨by omega, m_well hC ?_⟩
      conv => whnf
      refine hK _ (AM.st (hA.rows h4 (fun i hi => ?_) (fun i hi => ?_))) ((h4.mono (by decide) (by decide)).tr (Fm.wr Fm.rf (by decide) (by decide)))
      · rw [h1, h2]
        obtain ⟨g1, g2⟩ := hA.1.1 i hi
        unfold upd
        rw [g1, g2]
        exact ⟨rfl, rfl⟩
      · rw [h3 i]
        unfold zer
        rw [hA.1.2 i hi]
    | succ m ih =>
      intro k M' hk h1 h2 h3 h4
      refine b_X8_row_55 hX ?_
      conv => whnf
      refine ⟨fun q => absurd ((le_nI (a := 40) (by omega) (by omega)).mp q) (by omega), fun q => ?_⟩
      conv => whnf
      refine ⟨40 * r + k, (by simp only [lit_nI, nI_add, nI_mul]), by omega, ?_⟩
      conv => whnf
      rw [nI_1]
      refine ih (k + 1) _ (by omega) (by rw [wr_off (by decide)]; exact h1) (by rw [wr_off (by decide)]; exact h2) (fun i => ?_) (h4.tr (Fm.wr Fm.rf (by decide) (by decide)))
      by_cases e : i = 40 * r + k
      · subst e; rw [wr_at]; unfold zer; rw [if_pos (by omega)]
      · rw [wr_ne e, h3 i]
        unfold zer
        by_cases e2 : 40 * r ≤ i ∧ i < 40 * r + k
        · rw [if_pos e2, if_pos (by omega)]
        · rw [if_neg e2, if_neg (by omega)]
  refine b_X8_row_38 hX ?_
  conv => whnf
  refine ⟨r, rfl, hr, ?_⟩
  conv => whnf
  refine ⟨r, rfl, hr, ?_⟩
  conv => whnf
  refine loop 40 0 _ (by omega) ?_ ?_ (fun i => ?_) (Fm.wr (Fm.wr Fm.rf (by decide) (by decide)) (by decide) (by decide))
  · rw [wr_off (by decide), wr_self]
  · rw [wr_self, wr_off (by decide)]
  · rw [wr_off (by decide), wr_off (by decide)]
    unfold zer
    rw [if_neg (by omega)]
theorem mo_set {C : CC} (hC : Clo C) {d : Nat} (hd : 8 ≤ d) {σ M : MT} {K : KT} {row i v : Int32} (hA : AM σ M) (hW : WF σ) (hK : ∀ M1, AM (setR σ row i v).2 M1 → Fm M M1 61 75 → K (some (.int (setR σ row i v).1)) M1) : C d 130 [.ref 61, .int row, .int i, .int v] M K := by
  unfold setR at hK
  refine g_X8_set hC (fun X hX => ?_)
  refine b_X8_set_0 hX ?_
  conv => whnf
  refine ⟨by omega, m_isRow hC (by omega) (fun r hr er => ?_) (fun q => ?_)⟩
  rotate_left
  · rw [pit_neg q] at hK
    conv => whnf
    refine ⟨fun z => absurd rfl z, fun _ => ?_⟩
    conv => whnf
    exact hK M hA Fm.rf
  obtain ⟨hl, s, hs, es⟩ := hW.1 r hr
  obtain ⟨a1, a2⟩ := hA.1.1 r hr
  rw [pit_pos ⟨r, hr, er⟩] at hK
  subst er
  rw [tN_nI (by omega), es, tN_nI (by omega)] at hK
  conv => whnf
  refine ⟨fun _ => ?_, fun z => absurd z (by decide)⟩
  refine b_X8_set_10 hX ?_
  conv => whnf
  refine ⟨by omega, m_against hC hr (by rw [a1]; exact hl) (a2.trans es) hs (fun q1 => ?_) (fun q0 q2 => ?_) (fun q0 a c ea ec hac => ?_)⟩
  · rw [a1] at q1
    rw [pit_pos q1] at hK
    conv => whnf
    refine ⟨fun q => absurd q (by decide), fun _ => ?_⟩
    conv => whnf
    refine ⟨by omega, m_found hC ?_⟩
    conv => whnf
    exact hK _ hA.st (Fm.wr Fm.rf (by decide) (by decide))
  · rw [a1] at q0
    rw [pit_neg q0, pit_neg q2] at hK
    conv => whnf
    refine ⟨fun q => absurd q (by decide), fun _ => ?_⟩
    conv => whnf
    refine ⟨by omega, m_found hC ?_⟩
    conv => whnf
    exact hK _ hA.st (Fm.wr Fm.rf (by decide) (by decide))
  · rw [a1] at q0
    have ec1 : c = 1 := (eq_nI (a := c) (b := 1) (by omega) (by omega)).mp ec.symm
    rw [pit_neg q0, pit_pos ⟨a, c, ea, ec, hac⟩] at hK
    subst ea
    rw [tN_nI (by omega)] at hK
    conv => whnf
    refine ⟨fun _ => ?_, fun z => absurd (by decide) z⟩
    refine b_X8_set_31 hX ?_
    conv => whnf
    refine ⟨r, rfl, hr, ?_⟩
    conv => whnf
    refine ⟨by omega, m_cutTo hC ?_⟩
    conv => whnf
    refine ⟨40 * r + a, (by simp only [lit_nI, nI_add, nI_mul]), by omega, ?_⟩
    conv => whnf
    refine ⟨40 * r + a, (by simp only [lit_nI, nI_add, nI_mul]), by omega, ?_⟩
    conv => whnf
    rw [wr_at, a1]
    refine ⟨by omega, m_well hC ?_⟩
    conv => whnf
    have f : Fm M (wr M 66 (40 * r + a) (cutS (σ 0 r) v)) 64 67 := Fm.wr Fm.rf (by decide) (by decide)
    refine hK _ (AM.st (hA.rows f (fun j hj => ?_) (fun j hj => ?_))) ((f.mono (by decide) (by decide)).tr (Fm.wr Fm.rf (by decide) (by decide)))
    · rw [wr_off (by decide), wr_off (by decide)]; exact hA.1.1 j hj
    · rw [wr_self]
      unfold upd
      rw [hA.1.2 j hj]
theorem mo_drop {C : CC} (hC : Clo C) {d : Nat} (hd : 8 ≤ d) {σ M : MT} {K : KT} {row : Int32} (hA : AM σ M) (hW : WF σ) (hK : ∀ M1, AM (dropR σ row).2 M1 → Fm M M1 61 75 → K (some (.int (dropR σ row).1)) M1) : C d 132 [.ref 61, .int row] M K := by
  unfold dropR at hK
  refine g_X8_drop hC (fun X hX => ?_)
  refine b_X8_drop_0 hX ?_
  conv => whnf
  refine ⟨by omega, m_isRow hC (by omega) (fun r hr er => ?_) (fun q => ?_)⟩
  rotate_left
  · rw [pit_neg q] at hK
    conv => whnf
    refine ⟨fun z => absurd rfl z, fun _ => ?_⟩
    conv => whnf
    exact hK M hA Fm.rf
  obtain ⟨hl, -⟩ := hW.1 r hr
  obtain ⟨a1, a2⟩ := hA.1.1 r hr
  rw [pit_pos ⟨r, hr, er⟩] at hK
  subst er
  rw [tN_nI (by omega)] at hK
  conv => whnf
  refine ⟨fun _ => ?_, fun z => absurd z (by decide)⟩
  refine b_X8_drop_10 hX ?_
  conv => whnf
  refine ⟨r, rfl, hr, ?_⟩
  conv => whnf
  rw [a1]
  refine ⟨fun q => ?_, fun q => ?_⟩
  · have q0 : ¬ σ 0 r = -1 := fun z => by rw [z] at q; exact absurd q (by decide)
    rw [pit_neg q0] at hK
    refine b_X8_drop_25 hX ?_
    conv => whnf
    refine ⟨r, rfl, hr, ?_⟩
    conv => whnf
    refine ⟨r, rfl, hr, ?_⟩
    conv => whnf
    rw [wr_off (by decide), a2]
    refine ⟨by omega, m_well hC ?_⟩
    conv => whnf
    have f : Fm M (wr M 64 r (-1)) 64 67 := Fm.wr Fm.rf (by decide) (by decide)
    refine hK _ (AM.st (hA.rows f (fun j hj => ?_) (fun j hj => ?_))) ((f.mono (by decide) (by decide)).tr (Fm.wr Fm.rf (by decide) (by decide)))
    · rw [wr_self, wr_off (by decide)]
      unfold upd
      rw [(hA.1.1 j hj).1]
      exact ⟨rfl, (hA.1.1 j hj).2⟩
    · rw [wr_off (by decide)]; exact hA.1.2 j hj
  · rw [pit_pos ((lane_neg hl).mp (Int32.not_le.mp q))] at hK
    conv => whnf
    refine ⟨by omega, m_found hC ?_⟩
    conv => whnf
    exact hK _ hA.st (Fm.wr Fm.rf (by decide) (by decide))
theorem mo_copy {C : CC} (hC : Clo C) {d : Nat} (hd : 8 ≤ d) {σ M : MT} {K : KT} {a i b j n : Int32} (hA : AM σ M) (hW : WF σ) (hK : ∀ M1, AM (copyR σ a i b j n).2 M1 → Fm M M1 61 75 → K (some (.int (copyR σ a i b j n).1)) M1) : C d 131 [.ref 61, .int a, .int i, .int b, .int j, .int n] M K := by
  unfold copyR at hK
  refine g_X8_copy hC (fun X hX => ?_)
  have b14 : ¬ (isPl 8 a ∧ isPl 8 b) → X 14 [some (.ref 61), some (.int a), some (.int i), some (.int b), some (.int j), some (.int n), none] [] M := fun q => by
    rw [pit_neg q] at hK
    refine b_X8_copy_14 hX ?_
    conv => whnf
    exact hK M hA Fm.rf
  refine b_X8_copy_0 hX ?_
  conv => whnf
  refine ⟨by omega, m_isRow hC (by omega) (fun r hr er => ?_) (fun q => ?_)⟩
  rotate_left
  · conv => whnf
    exact ⟨fun _ => b14 (fun z => q z.1), fun z => absurd rfl z⟩
  conv => whnf
  refine ⟨fun q => absurd q (by decide), fun _ => ?_⟩
  conv => whnf
  refine ⟨by omega, m_isRow hC (by omega) (fun u hu eu => ?_) (fun q => ?_)⟩
  rotate_left
  · conv => whnf
    exact ⟨fun z => absurd rfl z, fun _ => b14 (fun z => q z.2)⟩
  conv => whnf
  refine ⟨fun _ => ?_, fun z => absurd z (by decide)⟩
  obtain ⟨hl, s, hs, es⟩ := hW.1 r hr
  obtain ⟨hl', s', hs', es'⟩ := hW.1 u hu
  obtain ⟨a1, a2⟩ := hA.1.1 r hr
  obtain ⟨b1, b2⟩ := hA.1.1 u hu
  rw [pit_pos ⟨⟨r, hr, er⟩, ⟨u, hu, eu⟩⟩] at hK
  subst er; subst eu
  rw [tN_nI (by omega), tN_nI (by omega), es, es', tN_nI (by omega), tN_nI (by omega)] at hK
  have b35 : (σ 0 r = -1 ∨ σ 0 u = -1) → X 35 [some (.ref 61), some (.int (nI r)), some (.int i), some (.int (nI u)), some (.int j), some (.int n), none] [] M := fun q => by
    rw [pit_pos q] at hK
    refine b_X8_copy_35 hX ?_
    conv => whnf
    refine ⟨by omega, m_found hC ?_⟩
    conv => whnf
    exact hK _ hA.st (Fm.wr Fm.rf (by decide) (by decide))
  refine b_X8_copy_17 hX ?_
  conv => whnf
  refine ⟨r, rfl, hr, ?_⟩
  conv => whnf
  rw [a1]
  refine ⟨fun q => b35 (Or.inl ((lane_neg hl).mp q)), fun q => ?_⟩
  conv => whnf
  refine ⟨u, rfl, hu, ?_⟩
  conv => whnf
  rw [b1]
  refine ⟨fun q2 => ?_, fun q2 => b35 (Or.inr ((lane_neg hl').mp (Int32.not_le.mp q2)))⟩
  have n1 : ¬ σ 0 r = -1 := fun z => q ((lane_neg hl).mpr z)
  have n2 : ¬ σ 0 u = -1 := fun z => absurd q2 (Int32.not_le.mpr ((lane_neg hl').mpr z))
  rw [pit_neg (by rintro (z | z); exact n1 z; exact n2 z)] at hK
  refine b_X8_copy_41 hX ?_
  conv => whnf
  refine ⟨r, rfl, hr, ?_⟩
  conv => whnf
  refine ⟨u, rfl, hu, ?_⟩
  conv => whnf
  rw [a1, b1]
  refine ⟨fun q3 => ?_, fun q3 => ?_⟩
  rotate_left
  · rw [pit_neg q3] at hK
    conv => whnf
    refine ⟨by omega, m_found hC ?_⟩
    conv => whnf
    exact hK _ hA.st (Fm.wr Fm.rf (by decide) (by decide))
  rw [pit_pos q3] at hK
  have b85 : ¬ (HD s i n ∧ HD s' j n) → X 85 [some (.ref 61), some (.int (nI r)), some (.int i), some (.int (nI u)), some (.int j), some (.int n), none] [] M := fun q => by
    rw [pit_neg q] at hK
    refine b_X8_copy_85 hX ?_
    conv => whnf
    refine ⟨by omega, m_found hC ?_⟩
    conv => whnf
    exact hK _ hA.st (Fm.wr Fm.rf (by decide) (by decide))
  refine b_X8_copy_62 hX ?_
  conv => whnf
  refine ⟨by omega, m_against hC hr (by rw [a1]; exact hl) (a2.trans es) hs (fun z => absurd (a1 ▸ z) n1) (fun _ q4 => ?_) (fun _ x y ex ey hxy => ?_)⟩
  · conv => whnf
    exact ⟨fun _ => b85 (fun z => q4 z.1), fun z => absurd (by decide) z⟩
  conv => whnf
  refine ⟨fun q => absurd q (by decide), fun _ => ?_⟩
  conv => whnf
  refine ⟨by omega, m_against hC hu (by rw [b1]; exact hl') (b2.trans es') hs' (fun z => absurd (b1 ▸ z) n2) (fun _ q4 => ?_) (fun _ x' y' ex' ey' hxy' => ?_)⟩
  · conv => whnf
    refine ⟨fun z => absurd z (by decide), fun _ => b85 (fun z => q4 z.2)⟩
  have : y = y' := (eq_nI (by omega) (by omega)).mp (ey.symm.trans ey')
  subst this
  rw [pit_pos ⟨⟨x, y, ex, ey, hxy⟩, ⟨x', y, ex', ey', hxy'⟩⟩] at hK
  subst ex; subst ey; subst ex'
  rw [tN_nI (by omega), tN_nI (by omega), tN_nI (by omega)] at hK
  have loop2 : ∀ (m k : Nat) (M' : MT), k + m = y → (∀ q, q ≠ 66 → q ≠ 67 → M' q = M q) → (∀ l, l < y → M' 67 l = M 66 (40 * r + x + l)) → (∀ l, M' 66 l = if 40 * u + x' ≤ l ∧ l < 40 * u + x' + k then M 66 (40 * r + x + (l - (40 * u + x'))) else M 66 l) → X 131 [some (.ref 61), some (.int (nI r)), some (.int (nI x)), some (.int (nI u)), some (.int (nI x')), some (.int (nI y)), some (.int (nI k))] [] M' := by
    intro m
    induction m with
    | zero =>
      intro k M' hk h1 h2 h3
      rw [Nat.add_zero] at hk
      subst hk
      refine b_X8_copy_131 hX ?_
      conv => whnf
      refine ⟨fun q => ?_, fun q => absurd (nI_le (by omega) (by omega)) q⟩
      refine b_X8_copy_166 hX ?_
      conv => whnf
      refine ⟨by omega, m_well hC ?_⟩
      conv => whnf
      have f : Fm M M' 64 67 := fun q hq => h1 q (by omega) (by omega)
      refine hK _ (AM.st (hA.rows f (fun l hl => ?_) (fun l hl => ?_))) ((f.mono (by decide) (by decide)).tr (Fm.wr Fm.rf (by decide) (by decide)))
      · rw [h1 64 (by omega) (by omega), h1 65 (by omega) (by omega)]; exact hA.1.1 l hl
      · rw [h3 l]
        unfold va_cpy
        by_cases e : 40 * u + x' ≤ l ∧ l < 40 * u + x' + k
        · rw [if_pos e, if_pos e]; exact hA.1.2 _ (by omega)
        · rw [if_neg e, if_neg e]; exact hA.1.2 l hl
    | succ m ih =>
      intro k M' hk h1 h2 h3
      refine b_X8_copy_131 hX ?_
      conv => whnf
      refine ⟨fun q => absurd q (nI_ge (by omega) (by omega)), fun q => ?_⟩
      conv => whnf
      refine ⟨k, rfl, by omega, ?_⟩
      conv => whnf
      refine ⟨40 * u + x' + k, (by simp only [lit_nI, nI_add, nI_mul]), by omega, ?_⟩
      conv => whnf
      rw [nI_1, h2 k (by omega)]
      refine ih (k + 1) _ (by omega) (fun q z1 z2 => by rw [wr_off z1]; exact h1 q z1 z2) (fun l hl => by rw [wr_off (by decide)]; exact h2 l hl) (fun l => ?_)
      by_cases e : l = 40 * u + x' + k
      · subst e; rw [wr_at, if_pos (by omega)]; congr 1; omega
      · rw [wr_ne e, h3 l]
        by_cases e2 : 40 * u + x' ≤ l ∧ l < 40 * u + x' + k
        · rw [if_pos e2, if_pos (by omega)]
        · rw [if_neg e2, if_neg (by omega)]
  have loop1 : ∀ (m k : Nat) (M' : MT), k + m = y → (∀ q, q ≠ 67 → M' q = M q) → (∀ l, l < k → M' 67 l = M 66 (40 * r + x + l)) → X 94 [some (.ref 61), some (.int (nI r)), some (.int (nI x)), some (.int (nI u)), some (.int (nI x')), some (.int (nI y)), some (.int (nI k))] [] M' := by
    intro m
    induction m with
    | zero =>
      intro k M' hk h1 h2
      rw [Nat.add_zero] at hk
      subst hk
      refine b_X8_copy_94 hX ?_
      conv => whnf
      refine ⟨fun q => ?_, fun q => absurd (nI_le (by omega) (by omega)) q⟩
      refine b_X8_copy_128 hX ?_
      conv => whnf
      refine loop2 k 0 M' (by omega) (fun q _ z2 => h1 q z2) h2 (fun l => ?_)
      rw [if_neg (by omega), h1 66 (by decide)]
    | succ m ih =>
      intro k M' hk h1 h2
      refine b_X8_copy_94 hX ?_
      conv => whnf
      refine ⟨fun q => absurd q (nI_ge (by omega) (by omega)), fun q => ?_⟩
      conv => whnf
      refine ⟨40 * r + x + k, (by simp only [lit_nI, nI_add, nI_mul]), by omega, ?_⟩
      conv => whnf
      refine ⟨k, rfl, by omega, ?_⟩
      conv => whnf
      rw [nI_1, h1 66 (by decide)]
      refine ih (k + 1) _ (by omega) (fun q z => by rw [wr_off z]; exact h1 q z) (fun l hl => ?_)
      by_cases e : l = k
      · subst e; exact wr_at
      · rw [wr_ne e]; exact h2 l (by omega)
  conv => whnf
  refine ⟨fun _ => ?_, fun z => absurd (by decide) z⟩
  refine b_X8_copy_91 hX ?_
  conv => whnf
  exact loop1 y 0 M (by omega) (fun _ _ => rfl) (fun l hl => absurd hl (by omega))
theorem mo_feed {C : CC} (hC : Clo C) {d : Nat} (hd : 8 ≤ d) {σ M : MT} {K : KT} {c : Int32} (hA : AM σ M) (hW : WF σ) (hK : ∀ M1, AM (feedR σ c).2 M1 → Fm M M1 61 75 → K (some (.int (feedR σ c).1)) M1) : C d 133 [.ref 61, .int c] M K := by
  obtain ⟨t, ht, et⟩ := hW.2.1
  obtain ⟨a1, a2⟩ := hA.2.2.1
  unfold feedR at hK
  rw [et, tN_nI (by omega)] at hK
  refine g_X8_feed hC (fun X hX => ?_)
  refine b_X8_feed_0 hX ?_
  conv => whnf
  refine ⟨by omega, m_in hC (fun a0 b0 => ?_) (fun q => ?_)⟩
  rotate_left
  · rw [pit_neg q] at hK
    conv => whnf
    refine ⟨fun z => absurd rfl z, fun _ => ?_⟩
    conv => whnf
    exact hK M hA Fm.rf
  rw [pit_pos ⟨a0, b0⟩] at hK
  conv => whnf
  refine ⟨fun _ => ?_, fun z => absurd z (by decide)⟩
  refine b_X8_feed_15 hX ?_
  conv => whnf
  rw [a1, et]
  refine ⟨fun q => ?_, fun q => ?_⟩
  · have q' : t < 140 := by
      have : t ≠ 140 := fun z => q (by rw [z]; rfl)
      omega
    rw [pit_pos q'] at hK
    refine b_X8_feed_28 hX ?_
    conv => whnf
    refine ⟨t, a1.trans et, by omega, ?_⟩
    conv => whnf
    rw [wr_at, wr_off (by decide), a1, et, nI_1]
    refine hK _ (hA.tape (Fm.wr (Fm.wr Fm.rf (by decide) (by decide)) (by decide) (by decide)) (fun q z1 z2 => by rw [wr_off (by omega), wr_off (by omega)]) (fun k hk => by rw [wr_ne hk, wr_off (by decide)]) wr_at (fun i hi => ?_)) (Fm.wr (Fm.wr Fm.rf (by decide) (by decide)) (by decide) (by decide))
    rw [wr_off (by decide), wr_self]
    unfold upd
    rw [a2 i hi]
  · have q' : ¬ t < 140 := by
      have := (eq_nI (b := 140) (by omega) (by omega)).mp q
      omega
    rw [pit_neg q'] at hK
    conv => whnf
    exact hK M hA Fm.rf
theorem mo_fault {C : CC} (hC : Clo C) {d : Nat} {σ M : MT} {K : KT} (hA : AM σ M) (hK : K (some (.int (faultR σ))) M) : C d 147 [.ref 61] M K := by
  refine g_X8_fault hC (fun X hX => ?_)
  refine b_X8_fault_0 hX ?_
  conv => whnf
  rw [hA.2.1.2]
  exact hK
