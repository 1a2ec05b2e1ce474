/-! THE STATE: 0 lanes, 1 sizes, 2 items; 3: 0 status, 1 the latest fault, 2 bytes taped, 3 acts, 4 traced, 5 and 6 images kept; 4 the tape, 5 the band, 6 and 7 images, 8 the trace, 10.. acts. -/
noncomputable def pit {α : Type} (p : Prop) (a b : α) : α := @ite _ p (Classical.propDecidable p) a b
theorem pit_pos {α : Type} {p : Prop} {a b : α} (h : p) : pit p a b = a := if_pos h
theorem pit_neg {α : Type} {p : Prop} {a b : α} (h : ¬ p) : pit p a b = b := if_neg h
def sr (σ : MT) (k : Nat) (f : Nat → Int32) : MT := fun q => if q = k then f else σ q
theorem sr_at {σ : MT} {k : Nat} {f : Nat → Int32} : sr σ k f k = f := by simp [sr]
theorem sr_ne {σ : MT} {k q : Nat} {f : Nat → Int32} (h : q ≠ k) : sr σ k f q = σ q := by simp [sr, h]
def nA (σ : MT) : Nat := (σ 3 3).toNatClampNeg
def Snap (M : MT) (s : Nat) (b : BV) : Prop := (∀ k, k < nP b → M 23 (33 * s + k) = b (26 + k)) ∧ (∀ k, k < 25 → M 23 (33 * s + 5 + k) = b (36 + k)) ∧ M 23 (33 * s + 30) = b 3 ∧ M 23 (33 * s + 31) = b 6 ∧ M 23 (33 * s + 32) = b 7
def RingC (σ M : MT) : Prop := M 22 2 = σ 3 3 ∧ ∃ o, o < 24 ∧ M 22 1 = nI o ∧ ∀ i, i < nA σ → Snap M ((o + i) % 24) (σ (10 + i))
def AC (σ M : MT) : Prop := ((∀ i, i < 8 → M 2 i = σ 0 i ∧ M 3 i = σ 1 i) ∧ (∀ i, i < 320 → M 4 i = σ 2 i)) ∧ (M 0 10 = σ 3 0 ∧ M 0 9 = σ 3 1) ∧ (M 6 1 = σ 3 2 ∧ ∀ i, i < 140 → M 7 i = σ 4 i) ∧ RingC σ M ∧ (Bd 8 (σ 5) M ∧ Bd 47 (σ 6) M ∧ Bd 54 (σ 7) M) ∧ (M 44 1 = σ 3 4 ∧ ∀ i, i < 16 → M 45 i = σ 8 i)
def AM (σ M : MT) : Prop := ((∀ i, i < 8 → M 64 i = σ 0 i ∧ M 65 i = σ 1 i) ∧ (∀ i, i < 320 → M 66 i = σ 2 i)) ∧ (M 61 7 = σ 3 0 ∧ M 61 10 = σ 3 1) ∧ (M 61 9 = σ 3 2 ∧ ∀ i, i < 140 → M 68 i = σ 4 i) ∧ (M 61 1 = σ 3 3 ∧ ∀ i k, i < nA σ → k < 61 → M 62 (244 + (61 * i + k)) = σ (10 + i) k) ∧ (∀ k, k < 61 → M 62 k = σ 5 k ∧ M 62 (61 + k) = σ 6 k ∧ M 62 (122 + k) = σ 7 k) ∧ (M 61 25 = σ 3 4 ∧ ∀ i, i < 16 → M 75 i = σ 8 i) ∧ (M 63 0 = σ 3 5 ∧ M 63 1 = σ 3 6)
def stat (k : Nat) : Prop := (k < 26 ∧ k ≠ 3 ∧ k ≠ 6 ∧ k ≠ 7) ∨ (31 ≤ k ∧ k < 36)
def WF (σ : MT) : Prop := (∀ i, i < 8 → (σ 0 i = -1 ∨ ∃ l, l ≤ 2 ∧ σ 0 i = nI l) ∧ ∃ s, s ≤ 40 ∧ σ 1 i = nI s) ∧ (∃ t, t ≤ 140 ∧ σ 3 2 = nI t) ∧ (σ 3 3 = nI (nA σ) ∧ nA σ ≤ 24) ∧ (∃ t, t ≤ 16 ∧ σ 3 4 = nI t) ∧ ((nA σ = 0 ∧ ∀ k, k < 61 → σ 5 k = 0) ∨ WB (σ 5)) ∧ (∀ k, k < 2 → (σ 3 (5 + k) = 0 ∧ ∀ j, j < 61 → σ (6 + k) j = 0) ∨ (σ 3 (5 + k) = 1 ∧ WB (σ (6 + k)))) ∧ (∀ i, i < nA σ → WB (σ (10 + i)) ∧ ∀ k, stat k → σ (10 + i) k = σ 5 k)
theorem Snap.fr {M M' : MT} {s : Nat} {b : BV} (h : Snap M s b) (e : M' 23 = M 23) : Snap M' s b := by
  unfold Snap
  rw [e]
  exact h
theorem RingC.fr {σ M M' : MT} (h : RingC σ M) (e : M' 23 = M 23) (e2 : M' 22 = M 22) : RingC σ M' := by
  obtain ⟨h1, o, h2, h3, h4⟩ := h
  exact ⟨by rw [e2]; exact h1, o, h2, by rw [e2]; exact h3, fun i hi => (h4 i hi).fr e⟩
theorem AC.fr {σ M M' : MT} (h : AC σ M) (f : Fm M M' 61 75) : AC σ M' := by
  obtain ⟨⟨h1, h2⟩, h3, ⟨h4, h5⟩, h6, ⟨h7, h8, h9⟩, h10, h11⟩ := h
  refine ⟨⟨fun i hi => ?_, fun i hi => ?_⟩, ?_, ⟨?_, fun i hi => ?_⟩, h6.fr (f 23 (by decide)) (f 22 (by decide)), ⟨h7.fr f (by decide), h8.fr f (by decide), h9.fr f (by decide)⟩, ?_, fun i hi => ?_⟩
  · rw [f 2 (by decide), f 3 (by decide)]; exact h1 i hi
  · rw [f 4 (by decide)]; exact h2 i hi
  · rw [f 0 (by decide)]; exact h3
  · rw [f 6 (by decide)]; exact h4
  · rw [f 7 (by decide)]; exact h5 i hi
  · rw [f 44 (by decide)]; exact h10
  · rw [f 45 (by decide)]; exact h11 i hi
/-- what is foretold changes the seer's own cells alone -/
theorem AC.seer {σ M M' : MT} (h : AC σ M) (f : Fm M M' 24 40) : AC σ M' := by
  obtain ⟨⟨h1, h2⟩, h3, ⟨h4, h5⟩, h6, ⟨h7, h8, h9⟩, h10, h11⟩ := h
  refine ⟨⟨fun i hi => ?_, fun i hi => ?_⟩, ?_, ⟨?_, fun i hi => ?_⟩, h6.fr (f 23 (by decide)) (f 22 (by decide)), ⟨h7.fr f (by decide), h8.fr f (by decide), h9.fr f (by decide)⟩, ?_, fun i hi => ?_⟩
  · rw [f 2 (by decide), f 3 (by decide)]; exact h1 i hi
  · rw [f 4 (by decide)]; exact h2 i hi
  · rw [f 0 (by decide)]; exact h3
  · rw [f 6 (by decide)]; exact h4
  · rw [f 7 (by decide)]; exact h5 i hi
  · rw [f 44 (by decide)]; exact h10
  · rw [f 45 (by decide)]; exact h11 i hi
theorem AM.fr {σ M M' : MT} (h : AM σ M) (f : Fm M M' 0 60) : AM σ M' := by
  obtain ⟨⟨h1, h2⟩, h3, ⟨h4, h5⟩, ⟨h6, h7⟩, h8, ⟨h9, h10⟩, h11⟩ := h
  refine ⟨⟨fun i hi => ?_, fun i hi => ?_⟩, ?_, ⟨?_, fun i hi => ?_⟩, ⟨?_, fun i k hi hk => ?_⟩, fun k hk => ?_, ⟨?_, fun i hi => ?_⟩, ?_⟩
  · rw [f 64 (by decide), f 65 (by decide)]; exact h1 i hi
  · rw [f 66 (by decide)]; exact h2 i hi
  · rw [f 61 (by decide)]; exact h3
  · rw [f 61 (by decide)]; exact h4
  · rw [f 68 (by decide)]; exact h5 i hi
  · rw [f 61 (by decide)]; exact h6
  · rw [f 62 (by decide)]; exact h7 i k hi hk
  · rw [f 62 (by decide)]; exact h8 k hk
  · rw [f 61 (by decide)]; exact h9
  · rw [f 75 (by decide)]; exact h10 i hi
  · rw [f 63 (by decide)]; exact h11
/-- the status alone is another -/
theorem nA_st {σ : MT} {v : Int32} : nA (wr σ 3 0 v) = nA σ := by unfold nA; rw [wr_ne (by decide)]
theorem AC.st {σ M : MT} {v : Int32} (h : AC σ M) : AC (wr σ 3 0 v) (wr M 0 10 v) := by
  obtain ⟨⟨h1, h2⟩, ⟨h3, h3'⟩, ⟨h4, h5⟩, ⟨h6, o, h6a, h6b, h6c⟩, ⟨h7, h8, h9⟩, h10, h11⟩ := h
  have f : Fm M (wr M 0 10 v) 0 0 := Fm.wr Fm.rf (by decide) (by decide)
  refine ⟨⟨fun i hi => ?_, fun i hi => ?_⟩, ⟨?_, ?_⟩, ⟨?_, fun i hi => ?_⟩, ⟨?_, o, h6a, ?_, fun i hi => ?_⟩, ⟨?_, ?_, ?_⟩, ?_, fun i hi => ?_⟩
  · rw [f 2 (by decide), f 3 (by decide), wr_off (p := 3) (by decide), wr_off (p := 3) (by decide)]; exact h1 i hi
  · rw [f 4 (by decide), wr_off (p := 3) (by decide)]; exact h2 i hi
  · rw [wr_at, wr_at]
  · rw [wr_ne (by decide), wr_ne (by decide)]; exact h3'
  · rw [f 6 (by decide), wr_ne (by decide)]; exact h4
  · rw [f 7 (by decide), wr_off (p := 3) (by decide)]; exact h5 i hi
  · rw [f 22 (by decide), wr_ne (by decide)]; exact h6
  · rw [f 22 (by decide)]; exact h6b
  · rw [nA_st] at hi
    rw [wr_off (p := 3) (by omega)]
    exact (h6c i hi).fr (f 23 (by decide))
  · rw [wr_off (p := 3) (by decide)]; exact h7.fr f (by decide)
  · rw [wr_off (p := 3) (by decide)]; exact h8.fr f (by decide)
  · rw [wr_off (p := 3) (by decide)]; exact h9.fr f (by decide)
  · rw [f 44 (by decide), wr_ne (by decide)]; exact h10
  · rw [f 45 (by decide), wr_off (p := 3) (by decide)]; exact h11 i hi
theorem AM.st {σ M : MT} {v : Int32} (h : AM σ M) : AM (wr σ 3 0 v) (wr M 61 7 v) := by
  obtain ⟨⟨h1, h2⟩, ⟨h3, h3'⟩, ⟨h4, h5⟩, ⟨h6, h7⟩, h8, ⟨h9, h10⟩, h11, h12⟩ := h
  have f : Fm M (wr M 61 7 v) 61 61 := Fm.wr Fm.rf (by decide) (by decide)
  refine ⟨⟨fun i hi => ?_, fun i hi => ?_⟩, ⟨?_, ?_⟩, ⟨?_, fun i hi => ?_⟩, ⟨?_, fun i k hi hk => ?_⟩, fun k hk => ?_, ⟨?_, fun i hi => ?_⟩, ?_, ?_⟩
  · rw [f 64 (by decide), f 65 (by decide), wr_off (p := 3) (by decide), wr_off (p := 3) (by decide)]; exact h1 i hi
  · rw [f 66 (by decide), wr_off (p := 3) (by decide)]; exact h2 i hi
  · rw [wr_at, wr_at]
  · rw [wr_ne (by decide), wr_ne (by decide)]; exact h3'
  · rw [wr_ne (by decide), wr_ne (by decide)]; exact h4
  · rw [f 68 (by decide), wr_off (p := 3) (by decide)]; exact h5 i hi
  · rw [wr_ne (by decide), wr_ne (by decide)]; exact h6
  · rw [nA_st] at hi
    rw [f 62 (by decide), wr_off (p := 3) (by omega)]; exact h7 i k hi hk
  · rw [f 62 (by decide), wr_off (p := 3) (by decide), wr_off (p := 3) (by decide), wr_off (p := 3) (by decide)]; exact h8 k hk
  · rw [wr_ne (by decide), wr_ne (by decide)]; exact h9
  · rw [f 75 (by decide), wr_off (p := 3) (by decide)]; exact h10 i hi
  · rw [f 63 (by decide), wr_ne (by decide)]; exact h11
  · rw [f 63 (by decide), wr_ne (by decide)]; exact h12
theorem WF.st {σ : MT} {v : Int32} (h : WF σ) : WF (wr σ 3 0 v) := by
  obtain ⟨h1, h2, ⟨h3, h3'⟩, h4, h5, h6, h7⟩ := h
  refine ⟨fun i hi => ?_, ?_, ?_, ?_, ?_, fun k hk => ?_, fun i hi => ?_⟩
  · rw [wr_off (p := 3) (by decide), wr_off (p := 3) (by decide)]; exact h1 i hi
  · rw [wr_ne (by decide)]; exact h2
  · rw [nA_st, wr_ne (by decide)]; exact ⟨h3, h3'⟩
  · rw [wr_ne (by decide)]; exact h4
  · rw [nA_st, wr_off (p := 3) (by decide)]; exact h5
  · rw [wr_ne (by omega), wr_off (p := 3) (by omega)]; exact h6 k hk
  · rw [nA_st] at hi
    rw [wr_off (p := 3) (by omega), wr_off (p := 3) (by decide)]; exact h7 i hi
/-- rows alone are others -/
def rowsOf (σ : MT) (l s t : Nat → Int32) : MT := sr (sr (sr σ 0 l) 1 s) 2 t
theorem rows_ge {σ : MT} {l s t : Nat → Int32} {q : Nat} (h : 3 ≤ q) : rowsOf σ l s t q = σ q := by
  unfold rowsOf
  rw [sr_ne (by omega), sr_ne (by omega), sr_ne (by omega)]
theorem rows_0 {σ : MT} {l s t : Nat → Int32} : rowsOf σ l s t 0 = l := by simp [rowsOf, sr]
theorem rows_1 {σ : MT} {l s t : Nat → Int32} : rowsOf σ l s t 1 = s := by simp [rowsOf, sr]
theorem rows_2 {σ : MT} {l s t : Nat → Int32} : rowsOf σ l s t 2 = t := by simp [rowsOf, sr]
theorem nA_rows {σ : MT} {l s t : Nat → Int32} : nA (rowsOf σ l s t) = nA σ := by unfold nA; rw [rows_ge (by decide)]
theorem AC.rows {σ M M' : MT} {l s t : Nat → Int32} (h : AC σ M) (f : Fm M M' 2 5) (h1 : ∀ i, i < 8 → M' 2 i = l i ∧ M' 3 i = s i) (h2 : ∀ i, i < 320 → M' 4 i = t i) : AC (rowsOf σ l s t) M' := by
  obtain ⟨-, h3, ⟨h4, h5⟩, ⟨h6, o, h6a, h6b, h6c⟩, ⟨h7, h8, h9⟩, h10, h11⟩ := h
  unfold AC
  rw [rows_0, rows_1, rows_2, rows_ge (by decide), rows_ge (by decide), rows_ge (by decide), rows_ge (by decide), rows_ge (by decide), rows_ge (by decide)]
  refine ⟨⟨h1, h2⟩, ?_, ⟨?_, fun i hi => ?_⟩, ⟨?_, o, h6a, ?_, fun i hi => ?_⟩, ⟨h7.fr f (by decide), h8.fr f (by decide), h9.fr f (by decide)⟩, ?_, fun i hi => ?_⟩
  · rw [f 0 (by decide)]; exact h3
  · rw [f 6 (by decide)]; exact h4
  · rw [f 7 (by decide)]; exact h5 i hi
  · rw [f 22 (by decide), rows_ge (by decide)]; exact h6
  · rw [f 22 (by decide)]; exact h6b
  · rw [nA_rows] at hi
    rw [rows_ge (by omega)]
    exact (h6c i hi).fr (f 23 (by decide))
  · rw [f 44 (by decide)]; exact h10
  · rw [f 45 (by decide)]; exact h11 i hi
theorem AM.rows {σ M M' : MT} {l s t : Nat → Int32} (h : AM σ M) (f : Fm M M' 64 67) (h1 : ∀ i, i < 8 → M' 64 i = l i ∧ M' 65 i = s i) (h2 : ∀ i, i < 320 → M' 66 i = t i) : AM (rowsOf σ l s t) M' := by
  obtain ⟨-, h3, ⟨h4, h5⟩, ⟨h6, h7⟩, h8, ⟨h9, h10⟩, h11, h12⟩ := h
  unfold AM
  rw [rows_0, rows_1, rows_2, rows_ge (by decide), rows_ge (by decide), rows_ge (by decide), rows_ge (by decide), rows_ge (by decide), rows_ge (by decide)]
  refine ⟨⟨h1, h2⟩, ?_, ⟨?_, fun i hi => ?_⟩, ⟨?_, fun i k hi hk => ?_⟩, fun k hk => ?_, ⟨?_, fun i hi => ?_⟩, ?_, ?_⟩
  · rw [f 61 (by decide)]; exact h3
  · rw [f 61 (by decide)]; exact h4
  · rw [f 68 (by decide)]; exact h5 i hi
  · rw [f 61 (by decide)]; exact h6
  · rw [nA_rows] at hi
    rw [f 62 (by decide), rows_ge (by omega)]; exact h7 i k hi hk
  · rw [f 62 (by decide)]; exact h8 k hk
  · rw [f 61 (by decide)]; exact h9
  · rw [f 75 (by decide)]; exact h10 i hi
  · rw [f 63 (by decide)]; exact h11
  · rw [f 63 (by decide)]; exact h12
theorem WF.rows {σ : MT} {l s t : Nat → Int32} (h : WF σ) (h0 : ∀ i, i < 8 → (l i = -1 ∨ ∃ k, k ≤ 2 ∧ l i = nI k) ∧ ∃ k, k ≤ 40 ∧ s i = nI k) : WF (rowsOf σ l s t) := by
  obtain ⟨-, h2, ⟨h3, h3'⟩, h4, h5, h6, h7⟩ := h
  unfold WF
  rw [rows_0, rows_1, rows_ge (by decide), rows_ge (by decide), nA_rows]
  refine ⟨h0, h2, ⟨h3, h3'⟩, h4, h5, fun k hk => ?_, fun i hi => ?_⟩
  · rw [rows_ge (by omega)]; exact h6 k hk
  · rw [rows_ge (by omega)]; exact h7 i hi
