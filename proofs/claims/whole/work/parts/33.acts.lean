/-! acts, in the class -/
def pushA (σ : MT) : MT := if nA σ < 24 then sr (wr σ 3 3 (nI (nA σ + 1))) (10 + nA σ) (σ 5) else fun q => if 10 ≤ q ∧ q < 33 then σ (q + 1) else if q = 33 then σ 5 else σ q
theorem pushA_lo {σ : MT} {q : Nat} (h : q < 10) (h3 : q ≠ 3) : pushA σ q = σ q := by
  unfold pushA
  by_cases h1 : nA σ < 24
  · rw [if_pos h1, sr_ne (by omega), wr_off h3]
  · rw [if_neg h1, if_neg (by omega), if_neg (by omega)]
theorem pushA_3 {σ : MT} {k : Nat} (h3 : k ≠ 3) : pushA σ 3 k = σ 3 k := by
  unfold pushA
  by_cases h1 : nA σ < 24
  · rw [if_pos h1, sr_ne (by omega), wr_ne h3]
  · rw [if_neg h1, if_neg (by omega), if_neg (by omega)]
theorem pushA_n {σ : MT} (hW : WF σ) : nA (pushA σ) = (if nA σ < 24 then nA σ + 1 else 24) ∧ pushA σ 3 3 = nI (nA (pushA σ)) := by
  have hn := hW.2.2.1
  by_cases h1 : nA σ < 24
  · have e : pushA σ 3 3 = nI (nA σ + 1) := by unfold pushA; rw [if_pos h1, sr_ne (by omega), wr_at]
    have e2 : nA (pushA σ) = nA σ + 1 := by unfold nA; rw [e]; exact nI_clamp (by omega)
    rw [if_pos h1, e2]
    exact ⟨rfl, e⟩
  · have e : pushA σ 3 3 = σ 3 3 := by unfold pushA; rw [if_neg h1, if_neg (by omega), if_neg (by omega)]
    have e2 : nA (pushA σ) = nA σ := by unfold nA; rw [e]
    rw [if_neg h1, e2, e]
    exact ⟨by omega, hn.1⟩
theorem pushA_at {σ : MT} {i : Nat} (hi : i < nA (pushA σ)) (hW : WF σ) : (nA σ < 24 ∧ ((i < nA σ ∧ pushA σ (10 + i) = σ (10 + i)) ∨ (i = nA σ ∧ pushA σ (10 + i) = σ 5))) ∨ (nA σ = 24 ∧ ((i < 23 ∧ pushA σ (10 + i) = σ (10 + (i + 1))) ∨ (i = 23 ∧ pushA σ (10 + i) = σ 5))) := by
  have hn := hW.2.2.1
  rw [(pushA_n hW).1] at hi
  by_cases h1 : nA σ < 24
  · rw [if_pos h1] at hi
    refine Or.inl ⟨h1, ?_⟩
    unfold pushA
    rw [if_pos h1]
    by_cases e : i = nA σ
    · exact Or.inr ⟨e, by rw [e, sr_at]⟩
    · exact Or.inl ⟨by omega, by rw [sr_ne (by omega), wr_off (by omega)]⟩
  · rw [if_neg h1] at hi
    refine Or.inr ⟨by omega, ?_⟩
    unfold pushA
    rw [if_neg h1]
    by_cases e : i = 23
    · exact Or.inr ⟨e, by rw [e]; simp⟩
    · exact Or.inl ⟨by omega, by rw [if_pos (by omega)]; congr 1⟩
theorem WF.push {σ : MT} (h : WF σ) (hw : WB (σ 5)) : WF (pushA σ) := by
  have hn := pushA_n h
  have h24 := h.2.2.1.2
  obtain ⟨h1, h2, ⟨h3, h3'⟩, h4, h5, h6, h7⟩ := h
  have h : WF σ := ⟨h1, h2, ⟨h3, h3'⟩, h4, h5, h6, h7⟩
  refine ⟨fun i hi => ?_, ?_, ⟨hn.2, ?_⟩, ?_, Or.inr ?_, fun k hk => ?_, fun i hi => ?_⟩
  · rw [pushA_lo (by omega) (by omega), pushA_lo (by omega) (by omega)]; exact h1 i hi
  · rw [pushA_3 (by omega)]; exact h2
  · rw [hn.1]; split <;> omega
  · rw [pushA_3 (by omega)]; exact h4
  · rw [pushA_lo (by omega) (by omega)]; exact hw
  · rw [pushA_3 (by omega), pushA_lo (by omega) (by omega)]; exact h6 k hk
  · rw [pushA_lo (q := 5) (by omega) (by omega)]
    rcases pushA_at hi h with ⟨-, ⟨a, e⟩ | ⟨a, e⟩⟩ | ⟨a0, ⟨a, e⟩ | ⟨a, e⟩⟩
    · rw [e]; exact h7 i a
    · rw [e]; exact ⟨hw, fun _ _ => rfl⟩
    · rw [e]; exact h7 (i + 1) (by omega)
    · rw [e]; exact ⟨hw, fun _ _ => rfl⟩
theorem c_write {C : CC} (hC : Clo C) {d : Nat} (hd : 1 ≤ d) {M : MT} {K : KT} {b : BV} {s : Nat} (hb : Bd 8 b M) (h5 : nP b ≤ 5) (hs : s < 24) (hK : ∀ M', Snap M' s b → (∀ j, j < 33 * s ∨ 33 * s + 33 ≤ j → M' 23 j = M 23 j) → (∀ q, q ≠ 23 → M' q = M q) → K none M') : C d 10 [.ref 8, .ref 23, .int (nI (33 * s))] M K := by
  refine g_X2_write hC (fun X hX => ?_)
  refine b_X2_write_0 hX ?_
  conv => whnf
  refine ⟨by omega, 0, 33 * s, 5, rfl, rfl, rfl, by decide, by omega, ?_⟩
  conv => whnf
  refine ⟨by omega, 0, 33 * s + 5, 25, rfl, (by simp only [lit_nI, nI_add, nI_mul]), rfl, by decide, by omega, ?_⟩
  conv => whnf
  refine ⟨33 * s + 30, (by simp only [lit_nI, nI_add, nI_mul]), by omega, ?_⟩
  conv => whnf
  refine ⟨33 * s + 31, ?_, by omega, ?_⟩
  · rw [show 33 * s + 31 = 33 * s + 30 + 1 by omega]; exact (by simp only [lit_nI, nI_add, nI_mul])
  conv => whnf
  refine ⟨33 * s + 32, ?_, by omega, ?_⟩
  · rw [show 33 * s + 32 = 33 * s + 30 + 2 by omega]; exact (by simp only [lit_nI, nI_add, nI_mul])
  conv => whnf
  obtain ⟨⟨g0, g1, g2, g3, g4, g5, g6, g7⟩, b2, b3, b4⟩ := hb
  refine hK _ ⟨fun k hk => ?_, fun k hk => ?_, ?_, ?_, ?_⟩ (fun j hj => ?_) (fun q hq => ?_)
  · rw [wr_ne (by omega), wr_ne (by omega), wr_ne (by omega), cp_self]
    unfold va_cpy
    rw [if_neg (by omega), cp_self]
    unfold va_cpy
    rw [if_pos (by omega), ← (b2 k hk).2.2]
    congr 1; omega
  · rw [wr_ne (by omega), wr_ne (by omega), wr_ne (by omega), cp_self]
    unfold va_cpy
    rw [if_pos (by omega), cp_off (by decide), ← b3 k hk]
    congr 1; omega
  · rw [wr_ne (by omega), wr_ne (by omega), wr_at, ← g7]; simp [cp]
  · rw [wr_ne (by omega), wr_at, ← g2]; simp [cp, wr]
  · rw [wr_at, ← g3]; simp [cp, wr]
  · rw [wr_ne (by omega), wr_ne (by omega), wr_ne (by omega), cp_self]
    unfold va_cpy
    rw [if_neg (by omega), cp_self]
    unfold va_cpy
    rw [if_neg (by omega)]
  · rw [wr_off hq, wr_off hq, wr_off hq, cp_off hq, cp_off hq]
theorem c_keep {C : CC} (hC : Clo C) {d : Nat} (hd : 2 ≤ d) {σ M : MT} {K : KT} (hA : AC σ M) (hW : WF σ) (hw : WB (σ 5)) (hK : ∀ M', AC (pushA σ) M' → Fm M M' 22 23 → K none M') : C d 0 [.ref 22, .ref 8] M K := by
  have h24 := hW.2.2.1.2
  have hnp := pushA_n hW
  obtain ⟨a1, a2, a3, ⟨r1, o, r2, r3, r4⟩, ⟨b1, b2, b3⟩, a6⟩ := hA
  have r1' : M 22 2 = nI (nA σ) := r1.trans hW.2.2.1.1
  have asm : ∀ M' : MT, Fm M M' 22 23 → RingC (pushA σ) M' → K none M' := by
    intro M' f hr
    refine hK M' ⟨⟨fun i hi => ?_, fun i hi => ?_⟩, ⟨?_, ?_⟩, ⟨?_, fun i hi => ?_⟩, hr, ⟨?_, ?_, ?_⟩, ?_, fun i hi => ?_⟩ f
    · rw [f 2 (by decide), f 3 (by decide), pushA_lo (by omega) (by omega), pushA_lo (by omega) (by omega)]; exact a1.1 i hi
    · rw [f 4 (by decide), pushA_lo (by omega) (by omega)]; exact a1.2 i hi
    · rw [f 0 (by decide), pushA_3 (by omega)]; exact a2.1
    · rw [f 0 (by decide), pushA_3 (by omega)]; exact a2.2
    · rw [f 6 (by decide), pushA_3 (by omega)]; exact a3.1
    · rw [f 7 (by decide), pushA_lo (by omega) (by omega)]; exact a3.2 i hi
    · rw [pushA_lo (by omega) (by omega)]; exact b1.fr f (by decide)
    · rw [pushA_lo (by omega) (by omega)]; exact b2.fr f (by decide)
    · rw [pushA_lo (by omega) (by omega)]; exact b3.fr f (by decide)
    · rw [f 44 (by decide), pushA_3 (by omega)]; exact a6.1
    · rw [f 45 (by decide), pushA_lo (by omega) (by omega)]; exact a6.2 i hi
  refine g_X0_keep hC (fun X hX => ?_)
  refine b_X0_keep_0 hX ?_
  conv => whnf
  rw [r3, r1']
  refine ⟨by decide, ?_⟩
  conv => whnf
  have e1 : rem32 (nI o + nI (nA σ)) 24 = nI ((o + nA σ) % 24) := by
    rw [nI_add]
    exact pk_rem (d := 24) (by omega) (by omega) (by omega)
  rw [e1, show nI ((o + nA σ) % 24) * (33 : Int32) = nI (33 * ((o + nA σ) % 24)) by rw [Nat.mul_comm]; exact (by simp only [lit_nI, nI_add, nI_mul])]
  refine ⟨by omega, c_write hC (by omega) b1 hw.1.2.2.1 (by omega) (fun M1 g1 g2 g3 => ?_)⟩
  have f1 : Fm M M1 22 23 := fun q hq => g3 q (by omega)
  have e22 : M1 22 = M 22 := g3 22 (by decide)
  have keep : ∀ (M2 : MT), M2 23 = M1 23 → ∀ s, s < 24 → s ≠ (o + nA σ) % 24 → ∀ b, Snap M s b → nP b ≤ 5 → Snap M2 s b := by
    intro M2 h2 s hs hne b hb h5
    have ex : ∀ j, 33 * s ≤ j → j < 33 * s + 33 → M2 23 j = M 23 j := fun j j1 j2 => by rw [h2]; exact g2 j (by omega)
    obtain ⟨s1, s2, s3, s4, s5⟩ := hb
    refine ⟨fun k hk => ?_, fun k hk => ?_, ?_, ?_, ?_⟩
    · rw [ex _ (by omega) (by omega)]; exact s1 k hk
    · rw [ex _ (by omega) (by omega)]; exact s2 k hk
    · rw [ex _ (by omega) (by omega)]; exact s3
    · rw [ex _ (by omega) (by omega)]; exact s4
    · rw [ex _ (by omega) (by omega)]; exact s5
  conv => whnf
  rw [e22, r1']
  refine ⟨fun q => ?_, fun q => ?_⟩
  · have hn : nA σ = 24 := by
      have := (le_nI (a := 24) (by omega) (by omega)).mp q
      omega
    refine b_X0_keep_45 hX ?_
    conv => whnf
    refine ⟨by decide, ?_⟩
    conv => whnf
    refine b_X0_keep_58 hX ?_
    conv => whnf
    rw [e22, r3, nI_1]
    refine asm _ (f1.tr (Fm.wr Fm.rf (by decide) (by decide))) ⟨?_, (o + 1) % 24, by omega, ?_, fun i hi => ?_⟩
    · rw [wr_ne (by decide), e22, r1', hnp.2, hnp.1, if_neg (by omega), hn]
    · rw [wr_at]
      exact pk_rem (d := 24) (by omega) (by omega) (by omega)
    · rcases pushA_at hi hW with ⟨a0, -⟩ | ⟨-, ⟨a, e⟩ | ⟨a, e⟩⟩
      · omega
      · rw [e, show ((o + 1) % 24 + i) % 24 = (o + (i + 1)) % 24 by omega]
        exact keep _ (wr_off (by decide)) _ (by omega) (by omega) _ (r4 (i + 1) (by omega)) (hW.2.2.2.2.2.2 (i + 1) (by omega)).1.1.2.2.1
      · rw [e, show ((o + 1) % 24 + i) % 24 = (o + nA σ) % 24 by omega]
        exact g1.fr (wr_off (by decide))
  · have hn : nA σ < 24 := by
      rcases Nat.lt_or_ge (nA σ) 24 with z | z
      · exact z
      · exact absurd ((le_nI (a := 24) (by omega) (by omega)).mpr z) q
    conv => whnf
    rw [e22, r1', nI_1]
    refine asm _ (f1.tr (Fm.wr Fm.rf (by decide) (by decide))) ⟨?_, o, r2, ?_, fun i hi => ?_⟩
    · rw [wr_at, hnp.2, hnp.1, if_pos hn]
    · rw [wr_ne (by decide), e22]; exact r3
    · rcases pushA_at hi hW with ⟨-, ⟨a, e⟩ | ⟨a, e⟩⟩ | ⟨a0, -⟩
      · rw [e]
        exact keep _ (wr_off (by decide)) _ (by omega) (by omega) _ (r4 i a) (hW.2.2.2.2.2.2 i a).1.1.2.2.1
      · rw [e, a]
        exact g1.fr (wr_off (by decide))
      · omega
/-- the band alone is another -/
theorem nA_now {σ : MT} {b : BV} : nA (sr σ 5 b) = nA σ := by unfold nA; rw [sr_ne (by decide)]
theorem AC.now {σ M M' : MT} {b : BV} (h : AC σ M) (f : Fm M M' 8 14) (hb : Bd 8 b M') : AC (sr σ 5 b) M' := by
  obtain ⟨⟨h1, h2⟩, h3, ⟨h4, h5⟩, ⟨h6, o, h6a, h6b, h6c⟩, ⟨h7, h8, h9⟩, h10, h11⟩ := h
  refine ⟨⟨fun i hi => ?_, fun i hi => ?_⟩, ?_, ⟨?_, fun i hi => ?_⟩, ⟨?_, o, h6a, ?_, fun i hi => ?_⟩, ⟨?_, ?_, ?_⟩, ?_, fun i hi => ?_⟩
  · rw [f 2 (by decide), f 3 (by decide), sr_ne (by omega), sr_ne (by omega)]; exact h1 i hi
  · rw [f 4 (by decide), sr_ne (by omega)]; exact h2 i hi
  · rw [f 0 (by decide), sr_ne (by omega)]; exact h3
  · rw [f 6 (by decide), sr_ne (by omega)]; exact h4
  · rw [f 7 (by decide), sr_ne (by omega)]; exact h5 i hi
  · rw [f 22 (by decide), sr_ne (by omega)]; exact h6
  · rw [f 22 (by decide)]; exact h6b
  · rw [nA_now] at hi
    rw [sr_ne (by omega)]
    exact (h6c i hi).fr (f 23 (by decide))
  · rw [sr_at]; exact hb
  · rw [sr_ne (by omega)]; exact h8.fr f (by decide)
  · rw [sr_ne (by omega)]; exact h9.fr f (by decide)
  · rw [f 44 (by decide), sr_ne (by omega)]; exact h10
  · rw [f 45 (by decide), sr_ne (by omega)]; exact h11 i hi
theorem WF.now {σ : MT} {b : BV} (h : WF σ) (hb : WB b) (hs : ∀ k, stat k → b k = σ 5 k) : WF (sr σ 5 b) := by
  obtain ⟨h1, h2, ⟨h3, h3'⟩, h4, h5, h6, h7⟩ := h
  unfold WF
  rw [sr_ne (by decide), sr_ne (by decide), sr_ne (by decide), sr_at, nA_now]
  refine ⟨h1, h2, ⟨h3, h3'⟩, h4, Or.inr hb, fun k hk => ?_, fun i hi => ?_⟩
  · rw [sr_ne (by omega)]; exact h6 k hk
  · rw [sr_ne (by omega)]; exact ⟨(h7 i hi).1, fun k hk => ((h7 i hi).2 k hk).trans (hs k hk).symm⟩
/-! taken back -/
def popA (σ : MT) : MT := sr (wr σ 3 3 (nI (nA σ - 1))) 5 (σ (10 + (nA σ - 1)))
theorem c_takeBack {C : CC} (hC : Clo C) {d : Nat} (hd : 2 ≤ d) {σ M : MT} {K : KT} (hA : AC σ M) (hW : WF σ) (h1 : ∀ M', 0 < nA σ → AC (popA σ) M' → Fm M M' 8 23 → K (some (.int 1)) M') (h0 : nA σ = 0 → K (some (.int 0)) M) : C d 1 [.ref 22, .ref 8] M K := by
  have h24 := hW.2.2.1.2
  obtain ⟨a1, a2, a3, ⟨r1, o, r2, r3, r4⟩, ⟨b1, b2, b3⟩, a6⟩ := hA
  have r1' : M 22 2 = nI (nA σ) := r1.trans hW.2.2.1.1
  refine g_X0_takeBack hC (fun X hX => ?_)
  refine b_X0_takeBack_0 hX ?_
  conv => whnf
  rw [r1']
  refine ⟨fun q => ?_, fun q => ?_⟩
  · have hn : 0 < nA σ := (lt_nI (a := 0) (by omega) (by omega)).mp q
    obtain ⟨hwb, hst⟩ := hW.2.2.2.2.2.2 (nA σ - 1) (by omega)
    have e1 : rem32 (nI o + nI (nA σ - 1)) 24 = nI ((o + (nA σ - 1)) % 24) := by
      rw [nI_add]
      exact pk_rem (d := 24) (by omega) (by omega) (by omega)
    have e2 : nI (nA σ) - 1 = nI (nA σ - 1) := pk_sub (b := 1) hn
    refine b_X0_takeBack_9 hX ?_
    conv => whnf
    rw [wr_ne (by decide), wr_at, r3, r1', e2]
    refine ⟨by decide, ?_⟩
    conv => whnf
    rw [e1, show nI ((o + (nA σ - 1)) % 24) * (33 : Int32) = nI (33 * ((o + (nA σ - 1)) % 24)) by rw [Nat.mul_comm]; exact (by simp only [lit_nI, nI_add, nI_mul])]
    have hs : (o + (nA σ - 1)) % 24 < 24 := by omega
    have hsn := r4 (nA σ - 1) (by omega)
    generalize (o + (nA σ - 1)) % 24 = s at hs hsn ⊢
    refine ⟨by omega, g_X2_read hC (fun Y hY => ?_)⟩
    refine b_X2_read_0 hY ?_
    conv => whnf
    refine ⟨by omega, 33 * s, 0, 5, rfl, rfl, rfl, by omega, by decide, ?_⟩
    conv => whnf
    refine ⟨by omega, 33 * s + 5, 0, 25, (by simp only [lit_nI, nI_add, nI_mul]), rfl, rfl, by omega, by decide, ?_⟩
    conv => whnf
    refine ⟨33 * s + 30, (by simp only [lit_nI, nI_add, nI_mul]), by omega, ?_⟩
    conv => whnf
    refine ⟨33 * s + 31, ?_, by omega, ?_⟩
    · rw [show 33 * s + 31 = 33 * s + 30 + 1 by omega]; exact (by simp only [lit_nI, nI_add, nI_mul])
    conv => whnf
    refine ⟨33 * s + 32, ?_, by omega, ?_⟩
    · rw [show 33 * s + 32 = 33 * s + 30 + 2 by omega]; exact (by simp only [lit_nI, nI_add, nI_mul])
    conv => whnf
    refine ⟨Or.inr rfl, ?_⟩
    obtain ⟨s1, s2, s3, s4, s5⟩ := hsn
    obtain ⟨⟨g0, g1, g2, g3, g4, g5, g6, g7⟩, c2, c3, c4⟩ := b1
    have pP : nP (σ (10 + (nA σ - 1))) = nP (σ 5) := by unfold nP; rw [hst 5 (by unfold stat; omega)]
    have pB : nB (σ (10 + (nA σ - 1))) = nB (σ 5) := by unfold nB; rw [hst 4 (by unfold stat; omega)]
    have h5 := hwb.1.2.2.1
    have h12 := hwb.1.2.2.2.2.1
    have nAp : nA (popA σ) = nA σ - 1 := by
      unfold nA popA
      rw [sr_ne (by decide), wr_at]
      exact nI_clamp (by omega)
    have q5 : ∀ q, q ≠ 3 → q ≠ 5 → popA σ q = σ q := fun q z1 z2 => by unfold popA; rw [sr_ne z2, wr_off z1]
    have q3 : ∀ k, k ≠ 3 → popA σ 3 k = σ 3 k := fun k z => by unfold popA; rw [sr_ne (by decide), wr_ne z]
    have q33 : popA σ 3 3 = nI (nA σ - 1) := by unfold popA; rw [sr_ne (by decide), wr_at]
    have f : Fm M (wr (wr (wr (cp (cp (wr M 22 2 (nI (nA σ - 1))) 23 11 (33 * s) 0 5) 23 13 (33 * s + 5) 0 25) 8 7 (M 23 (33 * s + 30))) 8 2 (M 23 (33 * s + 31))) 8 3 (M 23 (33 * s + 32))) 8 23 := Fm.wr (Fm.wr (Fm.wr (Fm.cp (Fm.cp (Fm.wr Fm.rf (by decide) (by decide)) (by decide) (by decide)) (by decide) (by decide)) (by decide) (by decide)) (by decide) (by decide)) (by decide) (by decide)
    have eM : ∀ (x y z : Int32), x = M 23 (33 * s + 30) → y = M 23 (33 * s + 31) → z = M 23 (33 * s + 32) → K (some (.int 1)) (wr (wr (wr (cp (cp (wr M 22 2 (nI (nA σ - 1))) 23 11 (33 * s) 0 5) 23 13 (33 * s + 5) 0 25) 8 7 x) 8 2 y) 8 3 z) := by
      rintro x y z rfl rfl rfl
      refine h1 _ hn ⟨⟨fun i hi => ?_, fun i hi => ?_⟩, ⟨?_, ?_⟩, ⟨?_, fun i hi => ?_⟩, ⟨?_, o, r2, ?_, fun i hi => ?_⟩, ⟨⟨⟨?_, ?_, ?_, ?_, ?_, ?_, ?_, ?_⟩, fun i hi => ?_, fun i hi => ?_, fun i hi => ?_⟩, ?_, ?_⟩, ?_, fun i hi => ?_⟩ f
      · rw [f 2 (by decide), f 3 (by decide), q5 0 (by decide) (by decide), q5 1 (by decide) (by decide)]; exact a1.1 i hi
      · rw [f 4 (by decide), q5 2 (by decide) (by decide)]; exact a1.2 i hi
      · rw [f 0 (by decide), q3 0 (by decide)]; exact a2.1
      · rw [f 0 (by decide), q3 1 (by decide)]; exact a2.2
      · rw [f 6 (by decide), q3 2 (by decide)]; exact a3.1
      · rw [f 7 (by decide), q5 4 (by decide) (by decide)]; exact a3.2 i hi
      · rw [q33]; simp [wr, cp]
      · rw [← r3]; simp [wr, cp]
      · rw [nAp] at hi
        rw [q5 (10 + i) (by omega) (by omega)]
        exact (r4 i (by omega)).fr (by funext j; simp [wr, cp])
      · rw [show popA σ 5 = σ (10 + (nA σ - 1)) from sr_at, hst 5 (by unfold stat; omega), ← g0]; simp [wr, cp]
      · rw [show popA σ 5 = σ (10 + (nA σ - 1)) from sr_at, hst 4 (by unfold stat; omega), ← g1]; simp [wr, cp]
      · rw [show popA σ 5 = σ (10 + (nA σ - 1)) from sr_at, ← s4]; simp [wr, cp]
      · rw [show popA σ 5 = σ (10 + (nA σ - 1)) from sr_at, ← s5]; simp [wr, cp]
      · rw [show popA σ 5 = σ (10 + (nA σ - 1)) from sr_at, hst 0 (by unfold stat; omega), ← g4]; simp [wr, cp]
      · rw [show popA σ 5 = σ (10 + (nA σ - 1)) from sr_at, hst 1 (by unfold stat; omega), ← g5]; simp [wr, cp]
      · rw [show popA σ 5 = σ (10 + (nA σ - 1)) from sr_at, hst 2 (by unfold stat; omega), ← g6]; simp [wr, cp]
      · rw [show popA σ 5 = σ (10 + (nA σ - 1)) from sr_at, ← s3]; simp [wr, cp]
      · rw [show popA σ 5 = σ (10 + (nA σ - 1)) from sr_at] at hi ⊢
        have hi5 : i < 5 := by omega
        rw [hst (21 + i) (by unfold stat; omega), hst (31 + i) (by unfold stat; omega), ← s1 i hi]
        rw [pP] at hi
        rw [← (c2 i hi).1, ← (c2 i hi).2.1]
        refine ⟨?_, ?_, ?_⟩
        · simp [wr, cp]
        · simp [wr, cp]
        · simp [wr, cp, va_cpy, hi5]
      · rw [show popA σ 5 = σ (10 + (nA σ - 1)) from sr_at, ← s2 i hi]; simp [wr, cp, va_cpy, hi]
      · rw [show popA σ 5 = σ (10 + (nA σ - 1)) from sr_at] at hi ⊢
        rw [hst (9 + i) (by unfold stat; omega)]
        rw [pB] at hi
        rw [← c4 i hi]; simp [wr, cp]
      · rw [q5 6 (by decide) (by decide)]; exact b2.fr f (by decide)
      · rw [q5 7 (by decide) (by decide)]; exact b3.fr f (by decide)
      · rw [f 44 (by decide), q3 4 (by decide)]; exact a6.1
      · rw [f 45 (by decide), q5 8 (by decide) (by decide)]; exact a6.2 i hi
    refine eM _ _ _ ?_ ?_ ?_ <;> simp [wr, cp]
  · have hn : nA σ = 0 := by
      rcases Nat.eq_zero_or_pos (nA σ) with z | z
      · exact z
      · exact absurd ((lt_nI (a := 0) (by omega) (by omega)).mpr z) q
    conv => whnf
    exact ⟨Or.inl rfl, h0 hn⟩
theorem WF.pop {σ : MT} (h : WF σ) (hn : 0 < nA σ) : WF (popA σ) := by
  obtain ⟨h1, h2, ⟨h3, h3'⟩, h4, h5, h6, h7⟩ := h
  have nAp : nA (popA σ) = nA σ - 1 := by
    unfold nA popA
    rw [sr_ne (by decide), wr_at]
    exact nI_clamp (by omega)
  have q5 : ∀ q, q ≠ 3 → q ≠ 5 → popA σ q = σ q := fun q z1 z2 => by unfold popA; rw [sr_ne z2, wr_off z1]
  have q3 : ∀ k, k ≠ 3 → popA σ 3 k = σ 3 k := fun k z => by unfold popA; rw [sr_ne (by decide), wr_ne z]
  have q33 : popA σ 3 3 = nI (nA σ - 1) := by unfold popA; rw [sr_ne (by decide), wr_at]
  have q50 : popA σ 5 = σ (10 + (nA σ - 1)) := sr_at
  obtain ⟨w1, w2⟩ := h7 (nA σ - 1) (by omega)
  refine ⟨fun i hi => ?_, ?_, ⟨?_, ?_⟩, ?_, Or.inr ?_, fun k hk => ?_, fun i hi => ?_⟩
  · rw [q5 0 (by decide) (by decide), q5 1 (by decide) (by decide)]; exact h1 i hi
  · rw [q3 2 (by decide)]; exact h2
  · rw [nAp]; exact q33
  · omega
  · rw [q3 4 (by decide)]; exact h4
  · rw [q50]; exact w1
  · rw [q3 (5 + k) (by omega), q5 (6 + k) (by omega) (by omega)]; exact h6 k hk
  · rw [nAp] at hi
    rw [q5 (10 + i) (by omega) (by omega), q50]
    exact ⟨(h7 i (by omega)).1, fun k hk => ((h7 i (by omega)).2 k hk).trans (w2 k hk).symm⟩
noncomputable def undoR (σ : MT) : Int32 × MT := pit (nA σ = 0) (-1000002, σ) (nI (nA σ - 1), popA σ)
theorem cl_undo {C : CC} (hC : Clo C) {d : Nat} (hd : 8 ≤ d) {σ M : MT} {K : KT} (hA : AC σ M) (hW : WF σ) (hK : ∀ M1, AC (undoR σ).2 M1 → Fm M M1 0 60 → K (some (.int (undoR σ).1)) M1) : C d 85 [.ref 0] M K := by
  unfold undoR at hK
  refine g_X7_undo hC (fun X hX => ?_)
  refine b_X7_undo_0 hX ?_
  conv => whnf
  refine ⟨by omega, c_takeBack hC (by omega) hA hW (fun M1 hn g1 g2 => ?_) (fun hn => ?_)⟩
  · rw [pit_neg (by omega)] at hK
    conv => whnf
    refine ⟨fun q => absurd q (by decide), fun _ => ?_⟩
    conv => whnf
    rw [show M1 22 2 = nI (nA σ - 1) from g1.2.2.2.1.1.trans (by unfold popA; rw [sr_ne (by decide), wr_at])]
    exact hK M1 g1 (g2.mono (by decide) (by decide))
  · rw [pit_pos hn] at hK
    conv => whnf
    refine ⟨fun _ => ?_, fun z => absurd rfl z⟩
    refine b_X7_undo_24 hX ?_
    conv => whnf
    refine b_X7_undo_26 hX ?_
    conv => whnf
    exact hK M hA Fm.rf
