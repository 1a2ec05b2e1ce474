/-! WHAT EVERY CALL KEEPS -/
theorem pitR {p : Prop} {a b : Int32 × MT} {Q : MT → Prop} (h1 : p → Q a.2) (h2 : ¬ p → Q b.2) : Q (pit p a b).2 := by
  by_cases h : p
  · rw [pit_pos h]; exact h1 h
  · rw [pit_neg h]; exact h2 h
theorem upd_at {g : Nat → Int32} {k : Nat} {v : Int32} : upd g k v k = v := by simp [upd]
theorem upd_ne {g : Nat → Int32} {k i : Nat} {v : Int32} (h : i ≠ k) : upd g k v i = g i := by simp [upd, h]
theorem wf_row {σ : MT} {row lane n : Int32} (hW : WF σ) : WF (rowR σ row lane n).2 := by
  unfold rowR
  refine pitR (fun h => pitR (fun _ => hW.st) (fun hn => WF.st (hW.rows (fun i hi => ?_)))) (fun _ => hW)
  obtain ⟨⟨r, hr, er⟩, ⟨l0, l2⟩, h40⟩ := h
  obtain ⟨l, -, hl, rfl⟩ := rngL (lo := 0) (hi := 2) (by omega) l0 l2 (by omega)
  obtain ⟨s, -, hs, rfl⟩ := rngL (lo := 0) (hi := 40) (by omega) (Int32.not_lt.mp hn) h40 (by omega)
  by_cases z : i = tN row
  · subst z; rw [upd_at, upd_at]; exact ⟨Or.inr ⟨l, hl, rfl⟩, s, hs, rfl⟩
  · rw [upd_ne z, upd_ne z]; exact hW.1 i hi
theorem wf_set {σ : MT} {row i v : Int32} (hW : WF σ) : WF (setR σ row i v).2 := by
  unfold setR
  exact pitR (fun _ => pitR (fun _ => hW.st) (fun _ => pitR (fun _ => WF.st (hW.rows hW.1)) (fun _ => hW.st))) (fun _ => hW)
theorem wf_copy {σ : MT} {a i b j n : Int32} (hW : WF σ) : WF (copyR σ a i b j n).2 := by
  unfold copyR
  exact pitR (fun _ => pitR (fun _ => hW.st) (fun _ => pitR (fun _ => pitR (fun _ => WF.st (hW.rows hW.1)) (fun _ => hW.st)) (fun _ => hW.st))) (fun _ => hW)
theorem wf_drop {σ : MT} {row : Int32} (hW : WF σ) : WF (dropR σ row).2 := by
  unfold dropR
  refine pitR (fun _ => pitR (fun _ => hW.st) (fun _ => WF.st (hW.rows (fun i hi => ?_)))) (fun _ => hW)
  by_cases z : i = tN row
  · rw [z, upd_at]; exact ⟨Or.inl rfl, z ▸ (hW.1 i hi).2⟩
  · rw [upd_ne z]; exact hW.1 i hi
theorem wf_feed {σ : MT} {c : Int32} (hW : WF σ) : WF (feedR σ c).2 := by
  unfold feedR
  exact pitR (fun _ => pitR (fun h => hW.tape ⟨_, by omega, rfl⟩) (fun _ => hW)) (fun _ => hW)
theorem wf_undo {σ : MT} (hW : WF σ) : WF (undoR σ).2 := by
  unfold undoR
  exact pitR (fun _ => hW) (fun h => hW.pop (by omega))
theorem wf_bars {σ : MT} {n : Int32} (hW : WF σ) : WF (barsR σ n).2 := by
  unfold barsR
  obtain ⟨pe, p5, pw, p0⟩ := hW.pl
  refine pitR (fun _ => hW) (fun h => pitR (fun h2 => pitR (fun h3 => ?_) (fun _ => hW)) (fun _ => hW))
  have hw := pw (by omega)
  obtain ⟨k, -, hk, rfl⟩ := rngL (lo := 1) (hi := 24) (by omega) h2.1 h2.2 (by omega)
  obtain ⟨g, hg, eg⟩ := hw.2.2.1
  rw [eg, nI_add] at h3
  show WF (barsA (tN (nI k)) σ)
  rw [tN_nI (by omega)]
  exact (WF.bars k hW hw ⟨g, eg, (le_nI (b := 999) (by omega) (by omega)).mp h3⟩).1
theorem wf_pace {σ : MT} {p v : Int32} (hW : WF σ) : WF (paceR σ p v).2 := by
  unfold paceR
  obtain ⟨pe, p5, pw, p0⟩ := hW.pl
  refine pitR (fun h => ?_) (fun _ => hW)
  obtain ⟨⟨i, hi, rfl⟩, v0, v1⟩ := h
  have hw := pw (by omega)
  obtain ⟨k, k1, k2, rfl⟩ := rngL (lo := 300) (hi := 2500) (by omega) v0 v1 (by omega)
  show WF (actA σ (setB (σ 5) (26 + tN (nI i)) (nI k)))
  rw [tN_nI (by omega)]
  exact hW.act hw (hw.pace (by omega) ⟨k, k1, k2, rfl⟩) (fun j hj => setB_ne (by unfold stat at hj; omega))
theorem wf_hears {σ : MT} {i j w : Int32} (hW : WF σ) : WF (hearsR σ i j w).2 := by
  unfold hearsR
  obtain ⟨pe, p5, pw, p0⟩ := hW.pl
  refine pitR (fun h => ?_) (fun _ => hW)
  obtain ⟨⟨⟨x, hx, rfl⟩, ⟨y, hy, rfl⟩, -⟩, v0, v1⟩ := h
  have hw := pw (by omega)
  obtain ⟨k, k1, k2, rfl⟩ := rngL (lo := 0) (hi := 9) (by omega) v0 v1 (by omega)
  show WF (actA σ (setB (σ 5) (36 + (5 * tN (nI x) + tN (nI y))) (nI k)))
  rw [tN_nI (by omega), tN_nI (by omega)]
  exact hW.act hw (hw.ear hx hy ⟨k, k2, rfl⟩) (fun j hj => setB_ne (by unfold stat at hj; omega))
theorem wf_click {σ : MT} {v : Int32} (hW : WF σ) : WF (clickR σ v).2 := by
  unfold clickR
  obtain ⟨pe, p5, pw, p0⟩ := hW.pl
  refine pitR (fun _ => hW) (fun h => pitR (fun _ => ?_) (fun _ => hW))
  have hw := pw (by omega)
  exact hW.act hw hw.click (fun j hj => setB_ne (by unfold stat at hj; omega))
theorem wf_claps {σ : MT} {c : Int32} (hW : WF σ) : WF (clapsR σ c).2 := by
  unfold clapsR
  obtain ⟨pe, p5, pw, p0⟩ := hW.pl
  refine pitR (fun _ => hW) (fun h => pitR (fun _ => ?_) (fun _ => hW))
  have hw := pw (by omega)
  exact hW.act hw hw.quick (fun j hj => quickS_lo (by unfold stat at hj; omega) p5)
theorem wf_dancers {σ : MT} {row i m n what : Int32} (hW : WF σ) : WF (dancersR σ row i m n what).2 := by
  unfold dancersR
  exact pitR (fun _ => hW) (fun _ => pitR (fun _ => pitR (fun _ => hW.st) (fun _ => pitR (fun _ => hW.st) (fun _ => hW.st))) (fun _ => hW))
theorem wf_who {σ : MT} {row i what : Int32} (hW : WF σ) : WF (whoR σ row i what).2 := by
  unfold whoR
  exact pitR (fun _ => hW) (fun _ => pitR (fun _ => pitR (fun _ => hW.st) (fun _ => pitR (fun _ => hW.st) (fun _ => hW.st))) (fun _ => hW))
theorem wf_as {σ : MT} {p k : Int32} (hW : WF σ) : WF (asR σ p k).2 := by
  unfold asR
  exact pitR (fun _ => pitR (fun _ => hW.st) (fun _ => hW.st)) (fun _ => hW)
theorem wf_image {σ : MT} {k : Int32} (hW : WF σ) : WF (imageR σ k).2 := by
  unfold imageR
  obtain ⟨pe, p5, pw, p0⟩ := hW.pl
  refine pitR (fun h => pitR (fun _ => hW) (fun h2 => ?_)) (fun _ => hW)
  obtain ⟨j, -, hj, rfl⟩ := rngL (lo := 0) (hi := 1) (by omega) h.1 h.2 (by omega)
  show WF (sr (wr σ 3 (5 + tN (nI j)) 1) (6 + tN (nI j)) (σ 5))
  rw [tN_nI (by omega)]
  exact WF.img (by omega) hW (pw (by omega))
theorem wf_restore {σ : MT} {k : Int32} (hW : WF σ) : WF (restoreR σ k).2 := by
  unfold restoreR
  refine pitR (fun h => pitR (fun h2 => ?_) (fun _ => hW)) (fun _ => hW)
  obtain ⟨j, -, hj, rfl⟩ := rngL (lo := 0) (hi := 1) (by omega) h.1 h.2 (by omega)
  show WF (sr (wr σ 3 3 0) 5 (σ (6 + tN (nI j))))
  rw [tN_nI (by omega)] at h2 ⊢
  rcases hW.2.2.2.2.2.1 j (by omega) with ⟨e, -⟩ | ⟨-, hb⟩
  · rw [h2] at e; exact absurd e (by decide)
  · exact hW.res hb
theorem trL_16 {k : Nat} {what : Int32} : (trL k what).length ≤ 16 := by
  unfold trL
  split
  · split <;> decide
  · split <;> decide
theorem wf_ask {σ : MT} {p what : Int32} (hW : WF σ) : WF (askR σ p what).2 := by
  unfold askR
  exact pitR (fun _ => hW.tr ⟨_, trL_16, rfl⟩) (fun _ => hW)
