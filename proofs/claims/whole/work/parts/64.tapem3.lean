def Dm (b : BV) (M : MT) : Prop := ∀ k, k < 61 → M 62 (183 + k) = b k
def Fq (M M' : MT) : Prop := (∀ q, q ≠ 61 → q ≠ 62 → M' q = M q) ∧ (∀ k, ¬ (11 ≤ k ∧ k ≤ 14) → M' 61 k = M 61 k) ∧ ∀ k, (k < 183 ∨ 244 ≤ k) → M' 62 k = M 62 k
theorem Fq.rf {M : MT} : Fq M M := ⟨fun _ _ _ => rfl, fun _ _ => rfl, fun _ _ => rfl⟩
theorem Fq.tr {M M1 M2 : MT} (h1 : Fq M M1) (h2 : Fq M1 M2) : Fq M M2 := ⟨fun q a b => (h2.1 q a b).trans (h1.1 q a b), fun k a => (h2.2.1 k a).trans (h1.2.1 k a), fun k a => (h2.2.2 k a).trans (h1.2.2 k a)⟩
theorem Fp.fq {M M' : MT} (h : Fp M M') : Fq M M' := ⟨fun q a _ => h.1 q a, fun k a => h.2 k (by omega), fun k _ => by rw [h.1 62 (by decide)]⟩
theorem Fq.d {M M' : MT} {k : Nat} {v : Int32} (h : Fq M M') (hk : k < 61) : Fq M (wr M' 62 (183 + k) v) := ⟨fun q a b => by rw [wr_off b]; exact h.1 q a b, fun j a => by rw [wr_off (by decide)]; exact h.2.1 j a, fun j a => by rw [wr_ne (by omega)]; exact h.2.2 j a⟩
theorem Fq.s {M M' : MT} {k : Nat} {v : Int32} (h : Fq M M') (h1 : 11 ≤ k) (h2 : k ≤ 14) : Fq M (wr M' 61 k v) := ⟨fun q a b => by rw [wr_off a]; exact h.1 q a b, fun j a => by rw [wr_ne (by omega)]; exact h.2.1 j a, fun j a => by rw [wr_off (by decide)]; exact h.2.2 j a⟩
theorem Dm.fp {b : BV} {M M' : MT} (h : Dm b M) (f : Fp M M') : Dm b M' := fun k hk => by rw [f.1 62 (by decide)]; exact h k hk
theorem Dm.put {b : BV} {M : MT} {k : Nat} {v : Int32} (h : Dm b M) : Dm (setB b k v) (wr M 62 (183 + k) v) := fun j hj => by
  by_cases z : j = k
  · subst z; rw [wr_at, setB_at]
  · rw [wr_ne (by omega), setB_ne z]; exact h j hj
theorem Dm.s {b : BV} {M : MT} {k : Nat} {v : Int32} (h : Dm b M) : Dm b (wr M 61 k v) := fun j hj => by rw [wr_off (by decide)]; exact h j hj
theorem TMo.d {g : Nat → Int32} {T a k : Nat} {v : Int32} {M : MT} (h : TMo g T a M) : TMo g T a (wr M 62 k v) := by
  obtain ⟨e1, e2, e3, e4⟩ := h
  exact ⟨by rw [wr_off (by decide)]; exact e1, e2, by rw [wr_off (by decide)]; exact e3, fun i hi => by rw [wr_off (by decide)]; exact e4 i hi⟩
theorem m_isMore {C : CC} (hC : Clo C) {d : Nat} {M : MT} {K : KT} (hK : K (some (.int 0)) (wr (wr M 61 12 (M 61 11 - 1)) 61 13 3)) : C d 138 [.ref 61] M K := by
  refine g_X8_isMore hC (fun X hX => ?_)
  refine b_X8_isMore_0 hX ?_
  conv => whnf
  exact ⟨Or.inl rfl, hK⟩
theorem m_takesLaw {C : CC} (hC : Clo C) {d : Nat} (hd : 3 ≤ d) {M : MT} {K : KT} {g : Nat → Int32} {T : Nat} (hT : TMo g T 0 M) (hD : Dm (fun _ => 0) M) (h1 : ∀ M' a v0 v1 v2 v3, (∀ k, lawP g T k = k a (setB (setB (setB (setB (fun _ => 0) 0 v0) 1 v1) 2 v2) 3 v3)) → a ≤ T → TMo g T a M' → Dm (setB (setB (setB (setB (fun _ => 0) 0 v0) 1 v1) 2 v2) 3 v3) M' → Fq M M' → K (some (.int 1)) M') (h0 : ∀ M' f p, (∀ k, lawP g T k = .inr (f, p)) → FLm f p M' → Fq M M' → K (some (.int 0)) M') : C d 139 [.ref 61] M K := by
  refine g_X8_takesLaw hC (fun X hX => ?_)
  have step : ∀ (i : Nat) (lo hi sep : Int32) (a : Nat) (M1 : MT) (b1 : BV), i < 4 → (i < 3 ∧ lo = 0 ∧ hi = 20 ∧ sep = 44) ∨ (i = 3 ∧ lo = 40 ∧ hi = 99 ∧ sep = 59) → a ≤ T → TMo g T a M1 → Dm b1 M1 → Fq M M1 → (∀ M2 a2 v, (∀ k : Nat → Int32 → PR, nmP g T lo hi a (fun a v => tkP g T sep a (fun a => k a v)) = k a2 v) → a2 ≤ T → TMo g T a2 M2 → Dm (setB b1 i v) M2 → Fq M M2 → X 13 [some (.ref 61), some (.int (nI (i + 1)))] [] M2) → (∀ M2 f p, (∀ k : Nat → Int32 → PR, nmP g T lo hi a (fun a v => tkP g T sep a (fun a => k a v)) = .inr (f, p)) → FLm f p M2 → Fq M M2 → K (some (.int 0)) M2) → X 13 [some (.ref 61), some (.int (nI i))] [] M1 := by
    intro i lo hi sep a M1 b1 hi4 hc ha t1 d1 f1 cont bad
    have hsep : ¬ sep = -1 := by rcases hc with ⟨-, -, -, rfl⟩ | ⟨-, -, -, rfl⟩ <;> decide
    have b77 : ∀ (M2 : MT) (a2 : Nat) (v : Int32), (∀ k, nmP g T lo hi a k = k a2 v) → a2 ≤ T → TMo g T a2 M2 → Dm (setB b1 i v) M2 → Fq M M2 → X 77 [some (.ref 61), some (.int (nI i))] [.int sep, .ref 61] M2 := by
      intro M2 a2 v e l t dd f
      refine b_X8_takesLaw_77 hX ?_
      conv => whnf
      refine ⟨by omega, m_takes hC (by omega) t l hsep (fun N y e2 l2 t2 f2 => ?_) (fun N e2 h f2 => ?_)⟩
      · conv => whnf
        refine ⟨fun _ => ?_, fun z => absurd z (by decide)⟩
        refine b_X8_takesLaw_85 hX ?_
        conv => whnf
        rw [nI_1]
        exact cont N _ v (fun k => by rw [e, e2]) l2 t2 (dd.fp f2) (f.tr f2.fq)
      · conv => whnf
        refine ⟨fun z => absurd rfl z, fun _ => ?_⟩
        conv => whnf
        exact ⟨Or.inl rfl, bad N _ _ (fun k => by rw [e, e2]) h (f.tr f2.fq)⟩
    refine b_X8_takesLaw_13 hX ?_
    conv => whnf
    refine ⟨fun q => absurd ((le_nI (a := 4) (by omega) (by omega)).mp q) (by omega), fun _ => ?_⟩
    conv => whnf
    have hc2 := hc
    rcases hc with ⟨i3, rfl, rfl, -⟩ | ⟨i3, rfl, rfl, -⟩
    · refine ⟨fun q => absurd ((le_nI (a := 3) (by omega) (by omega)).mp q) (by omega), fun _ => ?_⟩
      conv => whnf
      refine b_X8_takesLaw_30 hX ?_
      conv => whnf
      refine ⟨fun q => absurd ((le_nI (a := 3) (by omega) (by omega)).mp q) (by omega), fun _ => ?_⟩
      conv => whnf
      refine ⟨by omega, m_takesNumber hC (by omega) t1 ha (fun N a2 v e l _ _ t ev _ f => ?_) (fun N f e h fm => ?_)⟩
      · conv => whnf
        refine ⟨fun _ => ?_, fun z => absurd z (by decide)⟩
        refine b_X8_takesLaw_50 hX ?_
        conv => whnf
        refine ⟨183 + i, (by simp only [lit_nI, nI_add, nI_mul]), by omega, ?_⟩
        conv => whnf
        rw [ev]
        have b77 := b77 (wr N 62 (183 + i) v) a2 v e l t.d (d1.fp f).put (Fq.d (f1.tr f.fq) (by omega))
        rcases hc2 with ⟨i3, -, -, rfl⟩ | ⟨i3, -, -, rfl⟩
        · refine ⟨fun q => absurd ((le_nI (a := 3) (by omega) (by omega)).mp q) (by omega), fun _ => ?_⟩
          conv => whnf
          have t7 : TMo g T a2 (wr N 62 (183 + i) v) := t.d
          have d7 : Dm (setB b1 i v) (wr N 62 (183 + i) v) := (d1.fp f).put
          have f7 : Fq M (wr N 62 (183 + i) v) := Fq.d (f1.tr f.fq) (by omega)
          refine ⟨by omega, m_takes hC (by omega) t7 l hsep (fun N y e2 l2 t2 f2 => ?_) (fun N e2 h f2 => ?_)⟩
          · conv => whnf
            refine ⟨fun _ => ?_, fun z => absurd z (by decide)⟩
            refine b_X8_takesLaw_85 hX ?_
            conv => whnf
            rw [nI_1]
            exact cont N _ v (fun k => by rw [e, e2]) l2 t2 (d7.fp f2) (f7.tr f2.fq)
          · conv => whnf
            refine ⟨fun z => absurd rfl z, fun _ => ?_⟩
            conv => whnf
            exact ⟨Or.inl rfl, bad N _ _ (fun k => by rw [e, e2]) h (f7.tr f2.fq)⟩
        · refine ⟨fun _ => ?_, fun q => absurd ((le_nI (a := 3) (by omega) (by omega)).mpr (by omega)) q⟩
          refine b_X8_takesLaw_75 hX ?_
          conv => whnf
          exact b77
      · conv => whnf
        refine ⟨fun z => absurd rfl z, fun _ => ?_⟩
        conv => whnf
        exact ⟨Or.inl rfl, bad N _ _ (fun k => by rw [e]) h (f1.tr fm.fq)⟩
    · refine ⟨fun _ => ?_, fun q => absurd ((le_nI (a := 3) (by omega) (by omega)).mpr (by omega)) q⟩
      refine b_X8_takesLaw_28 hX ?_
      conv => whnf
      refine b_X8_takesLaw_30 hX ?_
      conv => whnf
      refine ⟨fun _ => ?_, fun q => absurd ((le_nI (a := 3) (by omega) (by omega)).mpr (by omega)) q⟩
      refine b_X8_takesLaw_40 hX ?_
      conv => whnf
      refine b_X8_takesLaw_42 hX ?_
      conv => whnf
      refine ⟨by omega, m_takesNumber hC (by omega) t1 ha (fun N a2 v e l _ _ t ev _ f => ?_) (fun N f e h fm => ?_)⟩
      · conv => whnf
        refine ⟨fun _ => ?_, fun z => absurd z (by decide)⟩
        refine b_X8_takesLaw_50 hX ?_
        conv => whnf
        refine ⟨183 + i, (by simp only [lit_nI, nI_add, nI_mul]), by omega, ?_⟩
        conv => whnf
        rw [ev]
        have b77 := b77 (wr N 62 (183 + i) v) a2 v e l t.d (d1.fp f).put (Fq.d (f1.tr f.fq) (by omega))
        rcases hc2 with ⟨i3, -, -, rfl⟩ | ⟨i3, -, -, rfl⟩
        · refine ⟨fun q => absurd ((le_nI (a := 3) (by omega) (by omega)).mp q) (by omega), fun _ => ?_⟩
          conv => whnf
          have t7 : TMo g T a2 (wr N 62 (183 + i) v) := t.d
          have d7 : Dm (setB b1 i v) (wr N 62 (183 + i) v) := (d1.fp f).put
          have f7 : Fq M (wr N 62 (183 + i) v) := Fq.d (f1.tr f.fq) (by omega)
          refine ⟨by omega, m_takes hC (by omega) t7 l hsep (fun N y e2 l2 t2 f2 => ?_) (fun N e2 h f2 => ?_)⟩
          · conv => whnf
            refine ⟨fun _ => ?_, fun z => absurd z (by decide)⟩
            refine b_X8_takesLaw_85 hX ?_
            conv => whnf
            rw [nI_1]
            exact cont N _ v (fun k => by rw [e, e2]) l2 t2 (d7.fp f2) (f7.tr f2.fq)
          · conv => whnf
            refine ⟨fun z => absurd rfl z, fun _ => ?_⟩
            conv => whnf
            exact ⟨Or.inl rfl, bad N _ _ (fun k => by rw [e, e2]) h (f7.tr f2.fq)⟩
        · refine ⟨fun _ => ?_, fun q => absurd ((le_nI (a := 3) (by omega) (by omega)).mpr (by omega)) q⟩
          refine b_X8_takesLaw_75 hX ?_
          conv => whnf
          exact b77
      · conv => whnf
        refine ⟨fun z => absurd rfl z, fun _ => ?_⟩
        conv => whnf
        exact ⟨Or.inl rfl, bad N _ _ (fun k => by rw [e]) h (f1.tr fm.fq)⟩
  refine b_X8_takesLaw_0 hX ?_
  conv => whnf
  refine ⟨by omega, m_takes hC (by omega) hT (Nat.zero_le _) (by decide) (fun N y e l t f => ?_) (fun N e h f => ?_)⟩
  rotate_left
  · conv => whnf
    refine ⟨fun z => absurd rfl z, fun _ => ?_⟩
    conv => whnf
    exact ⟨Or.inl rfl, h0 N _ _ (fun k => by unfold lawP; rw [e]) h f.fq⟩
  conv => whnf
  refine ⟨fun _ => ?_, fun z => absurd z (by decide)⟩
  refine b_X8_takesLaw_11 hX ?_
  conv => whnf
  refine step 0 0 20 44 1 N _ (by omega) (Or.inl ⟨by omega, rfl, rfl, rfl⟩) l t (hD.fp f) f.fq (fun M1 a1 v0 e1 l1 t1 d1 f1 => ?_) (fun M1 v p e1 h fm => h0 M1 v p (fun k => by unfold lawP; rw [e]; exact e1 _) h fm)
  refine step 1 0 20 44 a1 M1 _ (by omega) (Or.inl ⟨by omega, rfl, rfl, rfl⟩) l1 t1 d1 f1 (fun M2 a2 v1 e2 l2 t2 d2 f2 => ?_) (fun M2 v p e2 h fm => h0 M2 v p (fun k => by unfold lawP; rw [e]; exact (e1 _).trans (e2 _)) h fm)
  refine step 2 0 20 44 a2 M2 _ (by omega) (Or.inl ⟨by omega, rfl, rfl, rfl⟩) l2 t2 d2 f2 (fun M3 a3 v2 e3 l3 t3 d3 f3 => ?_) (fun M3 v p e3 h fm => h0 M3 v p (fun k => by unfold lawP; rw [e]; exact (e1 _).trans ((e2 _).trans (e3 _))) h fm)
  refine step 3 40 99 59 a3 M3 _ (by omega) (Or.inr ⟨rfl, rfl, rfl, rfl⟩) l3 t3 d3 f3 (fun M4 a4 v3 e4 l4 t4 d4 f4 => ?_) (fun M4 v p e4 h fm => h0 M4 v p (fun k => by unfold lawP; rw [e]; exact (e1 _).trans ((e2 _).trans ((e3 _).trans (e4 _)))) h fm)
  refine b_X8_takesLaw_13 hX ?_
  conv => whnf
  refine ⟨fun _ => ?_, fun q => absurd (by decide) q⟩
  refine b_X8_takesLaw_91 hX ?_
  conv => whnf
  exact ⟨Or.inr rfl, h1 M4 a4 v0 v1 v2 v3 (fun k => by unfold lawP; rw [e]; exact (e1 _).trans ((e2 _).trans ((e3 _).trans (e4 _)))) l4 t4 d4 f4⟩
