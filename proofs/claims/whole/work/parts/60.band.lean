theorem c_clear {C : CC} (hC : Clo C) {d : Nat} {M : MT} {K : KT} (hK : ∀ M', (∀ k, k < 4 → M' 15 k = 0) → (∀ e, e < 25 → M' 20 e = 0) → (∀ q, q ≠ 15 → q ≠ 20 → M' q = M q) → K none M') : C d 8 [.ref 15] M K := by
  refine g_X2_clear hC (fun X hX => ?_)
  have loop : ∀ (m e : Nat) (M' : MT), e + m = 25 → (∀ k, k < 4 → M' 15 k = 0) → (∀ j, j < e → M' 20 j = 0) → (∀ q, q ≠ 15 → q ≠ 20 → M' q = M q) → X 22 [some (.ref 15), some (.int (nI e))] [] M' := by
    intro m
    induction m with
    | zero =>
      intro e M' he h1 h2 h3
      have he : e = 25 := by omega
      subst he
      refine b_X2_clear_22 hX ?_
      conv => whnf
      first
        | exact ⟨fun q => by
            refine b_X2_clear_41 hX ?_
            conv => whnf
            exact hK M' h1 h2 h3, fun q => absurd (by decide) q⟩
        | exact ⟨fun q => hK M' h1 h2 h3, fun q => absurd (by decide) q⟩
    | succ m ih =>
      intro e M' he h1 h2 h3
      refine b_X2_clear_22 hX ?_
      conv => whnf
      refine ⟨fun q => absurd ((le_nI (a := 25) (by omega) (by omega)).mp q) (by omega), fun q => ?_⟩
      conv => whnf
      refine ⟨e, rfl, by omega, ?_⟩
      conv => whnf
      rw [nI_1]
      refine ih (e + 1) _ (by omega) (fun k hk => by rw [wr_off (by decide)]; exact h1 k hk) (fun j hj => ?_) (fun q a b => by rw [wr_off b]; exact h3 q a b)
      by_cases z : j = e
      · subst z; exact wr_at
      · rw [wr_ne z]; exact h2 j (by omega)
  refine b_X2_clear_0 hX ?_
  conv => whnf
  refine loop 25 0 _ (by omega) (fun k hk => ?_) (fun j hj => absurd hj (by omega)) (fun q a b => ?_)
  · have : k = 0 ∨ k = 1 ∨ k = 2 ∨ k = 3 := by omega
    rcases this with rfl | rfl | rfl | rfl <;> simp [wr]
  · rw [wr_off a, wr_off a, wr_off a, wr_off a]
theorem c_readInto {C : CC} (hC : Clo C) {d : Nat} (hd : 5 ≤ d) {M : MT} {K : KT} {g : Nat → Int32} {T : Nat} (hT : M 6 1 = nI T ∧ T ≤ 140 ∧ ∀ i, i < 140 → M 7 i = g i) (h1 : ∀ M' b, bandP g T = .inl b → Bd 15 b M' → nP b ≤ 5 → nB b ≤ 12 → Fdr M M' → K (some (.int 1)) M') (h0 : ∀ M' f p, bandP g T = .inr (f, p) → FLc f p M' → Fdr M M' → K (some (.int 0)) M') : C d 61 [.ref 6, .ref 15] M K := by
  refine g_X6_readInto hC (fun X hX => ?_)
  have b45 : ∀ (M' : MT) (f : Int32) (p : Nat), bandP g T = .inr (f, p) → FLc f p M' → Fdr M M' → X 45 [some (.ref 6), some (.ref 15)] [] M' := fun M' f p hk hf fm => by
    refine b_X6_readInto_45 hX ?_
    conv => whnf
    refine b_X6_readInto_46 hX ?_
    conv => whnf
    exact ⟨Or.inl rfl, h0 M' f p hk hf fm⟩
  refine b_X6_readInto_0 hX ?_
  conv => whnf
  refine ⟨by omega, c_clear hC (fun M1 c1 c2 c3 => ?_)⟩
  conv => whnf
  have t1 : TC g T 0 M1 := by
    have t : TC g T 0 (wr M 6 4 (nI 0)) := ⟨by rw [wr_ne (by decide)]; exact hT.1, hT.2.1, wr_at, fun i hi => by rw [wr_off (by decide)]; exact hT.2.2 i hi⟩
    obtain ⟨x1, x2, x3, x4⟩ := t
    exact ⟨by rw [c3 6 (by decide) (by decide)]; exact x1, x2, by rw [c3 6 (by decide) (by decide)]; exact x3, fun i hi => by rw [c3 7 (by decide) (by decide)]; exact x4 i hi⟩
  have f1 : Fdr M M1 := fun q a b => by rw [c3 q (by omega) (by omega), wr_off a]
  refine ⟨by omega, c_readLaw hC (by omega) t1 (fun M2 a2 v0 v1 v2 v3 e2 l2 t2 w2 f2 => ?_) (fun M2 f p e h fm => ?_)⟩
  rotate_left
  · conv => whnf
    exact ⟨fun _ => b45 M2 f p (e _) h (f1.tr fm.fd), fun z => absurd rfl z⟩
  obtain ⟨s4, s5, s6, s7, s0⟩ := w2
  have hb2 : Bd 15 (setB (setB (setB (setB (fun _ => 0) 0 v0) 1 v1) 2 v2) 3 v3) M2 := by
    refine ⟨⟨?_, ?_, ?_, ?_, ?_, ?_, ?_, ?_⟩, fun i hi => absurd hi (Nat.not_lt_zero i), fun i hi => ?_, fun i hi => absurd hi (Nat.not_lt_zero i)⟩
    · rw [s0 0 (by omega), c1 0 (by omega)]; rfl
    · rw [s0 1 (by omega), c1 1 (by omega)]; rfl
    · rw [s0 2 (by omega), c1 2 (by omega)]; rfl
    · rw [s0 3 (by omega), c1 3 (by omega)]; rfl
    · rw [s4]; rfl
    · rw [s5]; rfl
    · rw [s6]; rfl
    · rw [s7]; rfl
    · show M2 20 i = _
      rw [f2 20 (by decide) (by decide), c2 i hi, setB_ne (by omega), setB_ne (by omega), setB_ne (by omega), setB_ne (by omega)]
  conv => whnf
  refine ⟨fun q => absurd q (by decide), fun _ => ?_⟩
  conv => whnf
  refine ⟨by omega, c_readSong hC (by omega) t2 l2 hb2 (Nat.zero_le _) rfl (fun M3 a3 b3 e3 l3 t3 hb3 eP3 e53 eB3 f3 => ?_) (fun M3 f p e h fm => ?_)⟩
  rotate_left
  · conv => whnf
    exact ⟨fun _ => b45 M3 f p (by unfold bandP; rw [e2]; exact e _) h ((f1.tr f2.fd).tr fm), fun z => absurd rfl z⟩
  have f13 := (f1.tr f2.fd).tr f3
  conv => whnf
  refine ⟨fun q => absurd q (by decide), fun _ => ?_⟩
  conv => whnf
  refine ⟨by omega, c_readPlayers hC (by omega) t3 l3 hb3 (by rw [e53]; rfl) eB3 (fun M4 a4 b4 e4 l4 t4 hb4 p0 p5 e54 eB4 f4 => ?_) (fun M4 f p e h fm => ?_)⟩
  rotate_left
  · conv => whnf
    exact ⟨fun _ => b45 M4 f p (by unfold bandP; rw [e2, e3]; exact e _) h (f13.tr fm), fun z => absurd rfl z⟩
  conv => whnf
  refine ⟨fun q => absurd q (by decide), fun _ => ?_⟩
  conv => whnf
  refine ⟨by omega, c_readEars hC (by omega) t4 l4 hb4 e54 p5 (by omega) (fun M5 b5 e5 hb5 p55 eB5 f5 => ?_) (fun M5 f p e h fm => ?_)⟩
  · conv => whnf
    refine ⟨fun q => absurd q (by decide), fun _ => ?_⟩
    conv => whnf
    exact ⟨Or.inr rfl, h1 M5 b5 (by unfold bandP; rw [e2, e3, e4]; exact e5) hb5 p55 eB5 ((f13.tr f4).tr f5)⟩
  · conv => whnf
    exact ⟨fun _ => b45 M5 f p (by unfold bandP; rw [e2, e3, e4]; exact e) h ((f13.tr f4).tr fm), fun z => absurd rfl z⟩
