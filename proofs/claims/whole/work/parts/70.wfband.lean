/-! A BAND READ IS A BAND; WHAT THE TAPE HOLDS -/
def Pb (b : BV) : Prop := (b 4 = nI (nB b) ∧ nB b ≤ 12) ∧ (b 5 = nI (nP b) ∧ nP b ≤ 5) ∧ (b 6 = 0 ∧ b 7 = 0) ∧ (∀ i, i < nP b → (∃ k, 1 ≤ k ∧ k ≤ 5 ∧ b (21 + i) = nI k) ∧ (∃ k, 300 ≤ k ∧ k ≤ 2500 ∧ b (26 + i) = nI k)) ∧ (∀ i j, i < 5 → j < 5 → (∃ w, w ≤ 9 ∧ b (36 + (5 * i + j)) = nI w) ∧ (¬ (i < nP b ∧ j < nP b) → b (36 + (5 * i + j)) = 0))
def Gd (r : PR) : Prop := ∀ b, r = .inl b → WB (setB b 8 1)
theorem Gd.no {q : Int32 × Nat} : Gd (.inr q) := fun _ h => by cases h
theorem Gd.tk {g : Nat → Int32} {T : Nat} {c : Int32} {a : Nat} {k : Nat → PR} (h : Gd (k (a + 1))) : Gd (tkP g T c a k) := by
  unfold tkP
  split
  · exact h
  · exact Gd.no
theorem Gd.nm {g : Nat → Int32} {T : Nat} {lo hi : Int32} {a : Nat} {k : Nat → Int32 → PR} (h : ∀ a v, lo ≤ v → v ≤ hi → Gd (k a v)) : Gd (nmP g T lo hi a k) := by
  unfold nmP
  by_cases h1 : numw g T a = 1 ∨ numw g T a = 2
  · rw [pit_pos h1]
    by_cases h2 : lo ≤ numv g T a (numw g T a) ∧ numv g T a (numw g T a) ≤ hi
    · rw [pit_pos h2]; exact h _ _ h2.1 h2.2
    · rw [pit_neg h2]; exact Gd.no
  · rw [pit_neg h1]; exact Gd.no
theorem Gd.if {p : Prop} [Decidable p] {x y : PR} (h1 : p → Gd x) (h2 : ¬ p → Gd y) : Gd (if p then x else y) := by
  by_cases h : p
  · rw [if_pos h]; exact h1 h
  · rw [if_neg h]; exact h2 h
theorem Pb.low {b : BV} {k : Nat} {v : Int32} (h : Pb b) (hk : k < 4) : Pb (setB b k v) := by
  obtain ⟨h1, h2, h3, h4, h5⟩ := h
  refine ⟨?_, ?_, ?_, fun i hi => ?_, fun i j hi hj => ?_⟩
  · rw [nB_setB (by omega), setB_ne (by omega)]; exact h1
  · rw [nP_setB (by omega), setB_ne (by omega)]; exact h2
  · rw [setB_ne (by omega), setB_ne (by omega)]; exact h3
  · rw [nP_setB (by omega)] at hi
    rw [setB_ne (by omega), setB_ne (by omega)]; exact h4 i hi
  · rw [nP_setB (by omega), setB_ne (by omega)]; exact h5 i j hi hj
theorem Pb.z : Pb (fun _ => 0) := by
  have e1 : nB (fun _ => 0) = 0 := by unfold nB; rfl
  have e2 : nP (fun _ => 0) = 0 := by unfold nP; rfl
  refine ⟨by rw [e1]; exact ⟨rfl, by omega⟩, by rw [e2]; exact ⟨rfl, by omega⟩, ⟨rfl, rfl⟩, fun i hi => by rw [e2] at hi; omega, fun i j _ _ => ⟨⟨0, by omega, rfl⟩, fun _ => rfl⟩⟩
theorem Pb.sng {b : BV} {v : Int32} (h : Pb b) (h12 : nB b < 12) : Pb (setB (setB b (9 + nB b) v) 4 (nI (nB b + 1))) ∧ nB (setB (setB b (9 + nB b) v) 4 (nI (nB b + 1))) = nB b + 1 ∧ nP (setB (setB b (9 + nB b) v) 4 (nI (nB b + 1))) = nP b := by
  obtain ⟨h1, h2, h3, h4, h5⟩ := h
  have eB : nB (setB (setB b (9 + nB b) v) 4 (nI (nB b + 1))) = nB b + 1 := by
    show (setB (setB b (9 + nB b) v) 4 (nI (nB b + 1)) 4).toNatClampNeg = _
    rw [setB_at]; exact tN_nI (by omega)
  have eP : nP (setB (setB b (9 + nB b) v) 4 (nI (nB b + 1))) = nP b := by rw [nP_setB (by omega), nP_setB (by omega)]
  refine ⟨⟨?_, ?_, ?_, fun i hi => ?_, fun i j hi hj => ?_⟩, eB, eP⟩
  · rw [eB, setB_at]; exact ⟨rfl, by omega⟩
  · rw [eP, setB_ne (by omega), setB_ne (by omega)]; exact h2
  · rw [setB_ne (by omega), setB_ne (by omega), setB_ne (by omega), setB_ne (by omega)]; exact h3
  · rw [eP] at hi
    rw [setB_ne (by omega), setB_ne (by omega), setB_ne (by omega), setB_ne (by omega)]; exact h4 i hi
  · rw [eP, setB_ne (by omega), setB_ne (by omega)]; exact h5 i j hi hj
theorem Gd.sng {g : Nat → Int32} {T : Nat} {k : Nat → BV → PR} (hk : ∀ a b, Pb b → 0 < nB b → nP b = 0 → Gd (k a b)) : ∀ (n a : Nat) (b : BV), Pb b → nP b = 0 → nB b + n = 12 → Gd (sngP g T k n a b) := by
  intro n
  induction n with
  | zero =>
    intro a b hb hp hn
    exact Gd.if (fun _ => Gd.if (fun _ => Gd.no) (fun h => Gd.tk (hk _ b hb (by omega) hp))) (fun _ => Gd.no)
  | succ n ih =>
    intro a b hb hp hn
    refine Gd.if (fun _ => Gd.if (fun _ => Gd.no) (fun h => Gd.tk (hk _ b hb (by omega) hp))) (fun _ => ?_)
    obtain ⟨z1, z2, z3⟩ := hb.sng (v := barO (byt g T a)) (by omega)
    exact ih _ _ z1 (by rw [z3]; exact hp) (by rw [z2]; omega)
theorem kindO_ok {v : Int32} (h : ¬ kindO v = 0) : ∃ k, 1 ≤ k ∧ k ≤ 5 ∧ kindO v = nI k := by
  revert h
  unfold kindO
  split
  · exact fun _ => ⟨1, by omega, by omega, rfl⟩
  split
  · exact fun _ => ⟨2, by omega, by omega, rfl⟩
  split
  · exact fun _ => ⟨3, by omega, by omega, rfl⟩
  split
  · exact fun _ => ⟨4, by omega, by omega, rfl⟩
  split
  · exact fun _ => ⟨5, by omega, by omega, rfl⟩
  · exact fun h => absurd rfl h
theorem Pb.ply {b : BV} {v h : Int32} {q : Nat} (hb : Pb b) (h5 : nP b < 5) (hq : ∃ k, 1 ≤ k ∧ k ≤ 5 ∧ v = nI k) (hq1 : 40 ≤ q) (hq2 : q ≤ 99) : Pb (setB (setB (setB (setB b (21 + nP b) v) (26 + nP b) (10 * nI q)) (31 + nP b) h) 5 (nI (nP b + 1))) ∧ nB (setB (setB (setB (setB b (21 + nP b) v) (26 + nP b) (10 * nI q)) (31 + nP b) h) 5 (nI (nP b + 1))) = nB b ∧ nP (setB (setB (setB (setB b (21 + nP b) v) (26 + nP b) (10 * nI q)) (31 + nP b) h) 5 (nI (nP b + 1))) = nP b + 1 := by
  obtain ⟨h1, h2, h3, h4, h6⟩ := hb
  have eB : nB (setB (setB (setB (setB b (21 + nP b) v) (26 + nP b) (10 * nI q)) (31 + nP b) h) 5 (nI (nP b + 1))) = nB b := by rw [nB_setB (by omega), nB_setB (by omega), nB_setB (by omega), nB_setB (by omega)]
  have eP : nP (setB (setB (setB (setB b (21 + nP b) v) (26 + nP b) (10 * nI q)) (31 + nP b) h) 5 (nI (nP b + 1))) = nP b + 1 := by
    show (setB (setB (setB (setB b (21 + nP b) v) (26 + nP b) (10 * nI q)) (31 + nP b) h) 5 (nI (nP b + 1)) 5).toNatClampNeg = _
    rw [setB_at]; exact tN_nI (by omega)
  refine ⟨⟨?_, ?_, ?_, fun i hi => ?_, fun i j hi hj => ?_⟩, eB, eP⟩
  · rw [eB, setB_ne (by omega), setB_ne (by omega), setB_ne (by omega), setB_ne (by omega)]; exact h1
  · rw [eP, setB_at]; exact ⟨rfl, by omega⟩
  · rw [setB_ne (by omega), setB_ne (by omega), setB_ne (by omega), setB_ne (by omega), setB_ne (by omega), setB_ne (by omega), setB_ne (by omega), setB_ne (by omega)]; exact h3
  · rw [eP] at hi
    by_cases z : i = nP b
    · subst z
      refine ⟨?_, ?_⟩
      · rw [setB_ne (by omega), setB_ne (by omega), setB_ne (by omega), setB_at]; exact hq
      · rw [setB_ne (by omega), setB_ne (by omega), setB_at]
        exact ⟨10 * q, by omega, by omega, nI_mul 10 q⟩
    · have := h4 i (by omega)
      rw [setB_ne (by omega), setB_ne (by omega), setB_ne (by omega), setB_ne (by omega), setB_ne (by omega), setB_ne (by omega), setB_ne (by omega), setB_ne (by omega)]; exact this
  · rw [eP, setB_ne (by omega), setB_ne (by omega), setB_ne (by omega), setB_ne (by omega)]
    obtain ⟨z1, z2⟩ := h6 i j hi hj
    exact ⟨z1, fun z => z2 (fun y => z ⟨by omega, by omega⟩)⟩
theorem Gd.pls {g : Nat → Int32} {T : Nat} {k : Nat → BV → PR} (hk : ∀ a b, Pb b → 0 < nB b → 0 < nP b → Gd (k a b)) : ∀ (n a : Nat) (b : BV), Pb b → 0 < nB b → nP b + n = 5 → Gd (plsP g T k n a b) := by
  intro n
  induction n with
  | zero =>
    intro a b hb hp hn
    exact Gd.if (fun _ => Gd.if (fun _ => Gd.no) (fun h => hk _ b hb hp (by omega))) (fun _ => Gd.no)
  | succ n ih =>
    intro a b hb hp hn
    refine Gd.if (fun _ => Gd.if (fun _ => Gd.no) (fun h => hk _ b hb hp (by omega))) (fun hq => ?_)
    refine Gd.nm (fun a1 v v0 v1 => Gd.tk (Gd.nm (fun a3 h _ _ => Gd.tk ?_)))
    obtain ⟨q, q1, q2, rfl⟩ := rngL (lo := 40) (hi := 99) (by omega) v0 v1 (by omega)
    obtain ⟨z1, z2, z3⟩ := hb.ply (h := h) (by omega) (kindO_ok hq) q1 q2
    exact ih _ _ z1 (by rw [z2]; exact hp) (by rw [z3]; omega)
theorem Pb.ear {b : BV} {x y q : Nat} (hb : Pb b) (hx : x < nP b) (hy : y < nP b) (hq : q ≤ 9) : Pb (setB b (36 + (5 * x + y)) (nI q)) := by
  obtain ⟨h1, h2, h3, h4, h6⟩ := hb
  refine ⟨?_, ?_, ?_, fun i hi => ?_, fun i j hi hj => ?_⟩
  · rw [nB_setB (by omega), setB_ne (by omega)]; exact h1
  · rw [nP_setB (by omega), setB_ne (by omega)]; exact h2
  · rw [setB_ne (by omega), setB_ne (by omega)]; exact h3
  · rw [nP_setB (by omega)] at hi
    rw [setB_ne (by omega), setB_ne (by omega)]; exact h4 i hi
  · rw [nP_setB (by omega)]
    by_cases z : i = x ∧ j = y
    · obtain ⟨rfl, rfl⟩ := z
      rw [setB_at]
      exact ⟨⟨q, hq, rfl⟩, fun z => absurd ⟨hx, hy⟩ z⟩
    · rw [setB_ne (by omega)]; exact h6 i j hi hj
theorem Pb.fin {b : BV} (hb : Pb b) (h1 : 0 < nB b) (h2 : 0 < nP b) : WB (setB b 8 1) := by
  obtain ⟨⟨a1, a2⟩, ⟨b1, b2⟩, ⟨c1, c2⟩, h4, h6⟩ := hb
  have e6 : nX (setB b 8 1) = 0 := by unfold nX; rw [setB_ne (by omega), c1]; rfl
  refine ⟨⟨?_, ?_, ?_, ?_, ?_, ?_, ?_⟩, setB_at, ⟨0, by omega, ?_⟩, fun i hi => ?_, fun i j hi hj => ?_⟩
  · rw [nP_setB (by omega), setB_ne (by omega)]; exact b1
  · rw [nP_setB (by omega)]; exact h2
  · rw [nP_setB (by omega)]; exact b2
  · rw [nB_setB (by omega), setB_ne (by omega)]; exact a1
  · rw [nB_setB (by omega)]; exact a2
  · rw [e6, setB_ne (by omega)]; exact c1
  · rw [e6, nB_setB (by omega)]; exact h1
  · rw [setB_ne (by omega)]; exact c2
  · rw [nP_setB (by omega)] at hi
    rw [setB_ne (by omega), setB_ne (by omega)]; exact h4 i hi
  · rw [nP_setB (by omega), setB_ne (by omega)]; exact h6 i j hi hj
theorem Gd.ers {g : Nat → Int32} {T : Nat} : ∀ (n a : Nat) (b : BV), Pb b → 0 < nB b → 0 < nP b → Gd (ersP g T n a b) := by
  intro n
  induction n with
  | zero =>
    intro a b hb hp hn
    exact Gd.if (fun _ => Gd.no) (fun _ => Gd.if (fun _ b' e => by cases e; exact hb.fin hp hn) (fun _ => Gd.no))
  | succ n ih =>
    intro a b hb hp hn
    refine Gd.if (fun _ => ?_) (fun _ => Gd.if (fun _ b' e => by cases e; exact hb.fin hp hn) (fun _ => Gd.no))
    have e5 : b 5 - 1 = nI (nP b - 1) := by
      obtain ⟨m, hm⟩ : ∃ m, nP b = m + 1 := ⟨nP b - 1, by omega⟩
      rw [hb.2.1.1, hm]; exact nI_pre
    have h5 := hb.2.1.2
    unfold earP
    rw [e5]
    refine Gd.nm (fun a1 x x0 x1 => Gd.tk (Gd.nm (fun a3 y y0 y1 => Gd.if (fun _ => Gd.no) (fun _ => Gd.tk (Gd.nm (fun a5 w w0 w1 => Gd.tk ?_))))))
    obtain ⟨i, -, i1, rfl⟩ := rngL (lo := 0) (by omega) x0 x1 (by omega)
    obtain ⟨j, -, j1, rfl⟩ := rngL (lo := 0) (by omega) y0 y1 (by omega)
    obtain ⟨q, -, q1, rfl⟩ := rngL (lo := 1) (hi := 9) (by omega) w0 w1 (by omega)
    rw [tN_nI (by omega), tN_nI (by omega)]
    refine ih _ _ (hb.ear (by omega) (by omega) q1) ?_ ?_
    · rw [nB_setB (by omega)]; exact hp
    · rw [nP_setB (by omega)]; exact hn
theorem bandP_ok {g : Nat → Int32} {T : Nat} : Gd (bandP g T) := by
  unfold bandP lawP
  refine Gd.tk ?_
  refine Gd.nm (fun _ v0 _ _ => ?_)
  refine Gd.tk ?_
  refine Gd.nm (fun _ v1 _ _ => ?_)
  refine Gd.tk ?_
  refine Gd.nm (fun _ v2 _ _ => ?_)
  refine Gd.tk ?_
  refine Gd.nm (fun _ v3 _ _ => ?_)
  refine Gd.tk ?_
  refine Gd.tk ?_
  refine Gd.sng (fun a b hb h1 h2 => Gd.pls (fun a b hb h1 h2 => Gd.ers 12 a b hb h1 h2) 5 a b hb h1 (by omega)) 12 _ _ (Pb.z.low (by omega) |>.low (by omega) |>.low (by omega) |>.low (by omega)) ?_ ?_
  · rw [nP_setB (by omega), nP_setB (by omega), nP_setB (by omega), nP_setB (by omega)]; rfl
  · rw [nB_setB (by omega), nB_setB (by omega), nB_setB (by omega), nB_setB (by omega)]; rfl
theorem wf_band {σ : MT} (hW : WF σ) : WF (bandR σ).2 := by
  have h := bandP_ok (g := σ 4) (T := tN (σ 3 2))
  unfold bandR
  split
  · next b e => exact (hW.tape ⟨0, by omega, rfl⟩).res (h b e)
  · exact (hW.tape ⟨0, by omega, rfl⟩).lf
/-! no sign on the tape is -1 -/
def WT (σ : MT) : Prop := ∀ i, ¬ σ 4 i = -1
theorem WT.of {σ σ' : MT} (h : WT σ) (e : σ' 4 = σ 4) : WT σ' := fun i => by rw [e]; exact h i
theorem WT.st {σ : MT} {v : Int32} (h : WT σ) : WT (wr σ 3 0 v) := h.of (wr_off (by decide))
theorem WT.rows {σ : MT} {l s t : Nat → Int32} (h : WT σ) : WT (rowsOf σ l s t) := h.of (rows_ge (by omega))
theorem WT.sr {σ : MT} {p q k : Nat} {v : Int32} {b : Nat → Int32} (h : WT σ) (h1 : p ≠ 4) (h2 : q ≠ 4) : WT (sr (wr σ p k v) q b) := h.of (by rw [sr_ne (Ne.symm h2), wr_off (Ne.symm h1)])
theorem wt_row {σ : MT} {row lane n : Int32} (h : WT σ) : WT (rowR σ row lane n).2 := by
  unfold rowR
  exact pitR (fun _ => pitR (fun _ => h.st) (fun _ => WT.st h.rows)) (fun _ => h)
theorem wt_set {σ : MT} {row i v : Int32} (h : WT σ) : WT (setR σ row i v).2 := by
  unfold setR
  exact pitR (fun _ => pitR (fun _ => h.st) (fun _ => pitR (fun _ => WT.st h.rows) (fun _ => h.st))) (fun _ => h)
theorem wt_copy {σ : MT} {a i b j n : Int32} (h : WT σ) : WT (copyR σ a i b j n).2 := by
  unfold copyR
  exact pitR (fun _ => pitR (fun _ => h.st) (fun _ => pitR (fun _ => pitR (fun _ => WT.st h.rows) (fun _ => h.st)) (fun _ => h.st))) (fun _ => h)
theorem wt_drop {σ : MT} {row : Int32} (h : WT σ) : WT (dropR σ row).2 := by
  unfold dropR
  exact pitR (fun _ => pitR (fun _ => h.st) (fun _ => WT.st h.rows)) (fun _ => h)
theorem wt_feed {σ : MT} {c : Int32} (h : WT σ) : WT (feedR σ c).2 := by
  unfold feedR
  refine pitR (fun hc => pitR (fun _ i => ?_) (fun _ => h)) (fun _ => h)
  show ¬ sr (wr σ 3 2 (nI (tN (σ 3 2) + 1))) 4 (upd (σ 4) (tN (σ 3 2)) c) 4 i = -1
  rw [sr_at]
  by_cases z : i = tN (σ 3 2)
  · rw [z, upd_at]; exact fun e => absurd (e ▸ hc.1) (by decide)
  · rw [upd_ne z]; exact h i
theorem wt_band {σ : MT} (h : WT σ) : WT (bandR σ).2 := by
  unfold bandR
  split
  · refine h.of ?_
    dsimp only
    rw [sr_ne (by omega), wr_off (by omega), sr_at]
  · refine h.of ?_
    dsimp only
    rw [wr_off (by omega), sr_at]
theorem wt_undo {σ : MT} (h : WT σ) : WT (undoR σ).2 := by
  unfold undoR
  exact pitR (fun _ => h) (fun _ => h.sr (by omega) (by omega))
theorem WT.act {σ : MT} {b : BV} (h : WT σ) : WT (actA σ b) := by
  unfold actA
  refine h.of ?_
  rw [sr_ne (by omega), pushA_lo (by omega) (by omega)]
theorem wt_barsA : ∀ (n : Nat) {σ : MT}, WT σ → WT (barsA n σ) := by
  intro n
  induction n with
  | zero => intro σ h; exact h
  | succ n ih => intro σ h; exact ih h.act
theorem wt_bars {σ : MT} {n : Int32} (h : WT σ) : WT (barsR σ n).2 := by
  unfold barsR
  exact pitR (fun _ => h) (fun _ => pitR (fun _ => pitR (fun _ => wt_barsA _ h) (fun _ => h)) (fun _ => h))
theorem wt_pace {σ : MT} {p v : Int32} (h : WT σ) : WT (paceR σ p v).2 := by
  unfold paceR
  exact pitR (fun _ => h.act) (fun _ => h)
theorem wt_hears {σ : MT} {i j w : Int32} (h : WT σ) : WT (hearsR σ i j w).2 := by
  unfold hearsR
  exact pitR (fun _ => h.act) (fun _ => h)
theorem wt_click {σ : MT} {v : Int32} (h : WT σ) : WT (clickR σ v).2 := by
  unfold clickR
  exact pitR (fun _ => h) (fun _ => pitR (fun _ => h.act) (fun _ => h))
theorem wt_claps {σ : MT} {c : Int32} (h : WT σ) : WT (clapsR σ c).2 := by
  unfold clapsR
  exact pitR (fun _ => h) (fun _ => pitR (fun _ => h.act) (fun _ => h))
theorem wt_dancers {σ : MT} {row i m n what : Int32} (h : WT σ) : WT (dancersR σ row i m n what).2 := by
  unfold dancersR
  exact pitR (fun _ => h) (fun _ => pitR (fun _ => pitR (fun _ => h.st) (fun _ => pitR (fun _ => h.st) (fun _ => h.st))) (fun _ => h))
theorem wt_who {σ : MT} {row i what : Int32} (h : WT σ) : WT (whoR σ row i what).2 := by
  unfold whoR
  exact pitR (fun _ => h) (fun _ => pitR (fun _ => pitR (fun _ => h.st) (fun _ => pitR (fun _ => h.st) (fun _ => h.st))) (fun _ => h))
theorem wt_songs {σ : MT} {row i n what : Int32} (h : WT σ) : WT (songsR σ row i n what).2 := by
  unfold songsR
  exact pitR (fun _ => pitR (fun _ => h.st) (fun _ => pitR (fun _ => pitR (fun _ => h.st) (fun _ => h)) (fun _ => h.st))) (fun _ => h)
theorem wt_as {σ : MT} {p k : Int32} (h : WT σ) : WT (asR σ p k).2 := by
  unfold asR
  exact pitR (fun _ => pitR (fun _ => h.st) (fun _ => h.st)) (fun _ => h)
theorem wt_image {σ : MT} {k : Int32} (h : WT σ) : WT (imageR σ k).2 := by
  unfold imageR
  exact pitR (fun _ => pitR (fun _ => h) (fun _ => h.sr (by omega) (by omega))) (fun _ => h)
theorem wt_restore {σ : MT} {k : Int32} (h : WT σ) : WT (restoreR σ k).2 := by
  unfold restoreR
  exact pitR (fun _ => pitR (fun _ => h.sr (by omega) (by omega)) (fun _ => h)) (fun _ => h)
theorem wt_ask {σ : MT} {p what : Int32} (h : WT σ) : WT (askR σ p what).2 := by
  unfold askR
  exact pitR (fun _ => h.sr (by omega) (by omega)) (fun _ => h)
