theorem kO_le {v : Int32} (h : kindO v ≤ 0) : kindO v = 0 := by
  unfold kindO at h ⊢
  by_cases c1 : v = 116
  · rw [if_pos c1] at h; exact absurd h (by decide)
  rw [if_neg c1] at h ⊢
  by_cases c2 : v = 114
  · rw [if_pos c2] at h; exact absurd h (by decide)
  rw [if_neg c2] at h ⊢
  by_cases c3 : v = 100
  · rw [if_pos c3] at h; exact absurd h (by decide)
  rw [if_neg c3] at h ⊢
  by_cases c4 : v = 107
  · rw [if_pos c4] at h; exact absurd h (by decide)
  rw [if_neg c4] at h ⊢
  by_cases c5 : v = 108
  · rw [if_pos c5] at h; exact absurd h (by decide)
  rw [if_neg c5]
theorem m_isBand {C : CC} (hC : Clo C) {d : Nat} (hd : 4 ≤ d) {M : MT} {K : KT} {g : Nat → Int32} {T : Nat} (hT : M 61 9 = nI T ∧ T ≤ 140 ∧ ∀ i, i < 140 → M 68 i = g i) (hg : ∀ i, ¬ g i = -1) (h1 : ∀ M' b, bandP g T = .inl b → Dm b M' → Fe M M' → K (some (.int 1)) M') (h0 : ∀ M' f p, bandP g T = .inr (f, p) → FLm f p M' → Fe M M' → K (some (.int 0)) M') : C d 145 [.ref 61] M K := by
  refine g_X8_isBand hC (fun X hX => ?_)
  have bad62 : ∀ (M' : MT) (f : Int32) (p : Nat), bandP g T = .inr (f, p) → FLm f p M' → Fe M M' → X 62 [some (.ref 61), some (.int 0)] [] M' := fun M' f p hk hf fm => by
    refine b_X8_isBand_62 hX ?_
    conv => whnf
    refine ⟨fun _ => ?_, fun z => absurd rfl z⟩
    refine b_X8_isBand_88 hX ?_
    conv => whnf
    refine ⟨fun _ => ?_, fun z => absurd rfl z⟩
    refine b_X8_isBand_111 hX ?_
    conv => whnf
    exact ⟨Or.inl rfl, h0 M' f p hk hf fm⟩
  have bad88 : ∀ (M' : MT) (f : Int32) (p : Nat), bandP g T = .inr (f, p) → FLm f p M' → Fe M M' → X 88 [some (.ref 61), some (.int 0)] [] M' := fun M' f p hk hf fm => by
    refine b_X8_isBand_88 hX ?_
    conv => whnf
    refine ⟨fun _ => ?_, fun z => absurd rfl z⟩
    refine b_X8_isBand_111 hX ?_
    conv => whnf
    exact ⟨Or.inl rfl, h0 M' f p hk hf fm⟩
  have ears : ∀ (n E a1 : Nat) (b1 : BV) (M1 : MT), E + n = 12 → M1 61 15 = nI E → b1 5 = nI (nP b1) → nP b1 ≤ 5 → (∀ e, e < 25 → ∃ w, w ≤ 9 ∧ b1 (36 + e) = nI w) → a1 ≤ T → TMo g T a1 M1 → Dm b1 M1 → Fe M M1 → bandP g T = ersP g T n a1 b1 → X 88 [some (.ref 61), some (.int 1)] [] M1 := by
    intro n
    induction n with
    | zero =>
      intro E a1 b1 M1 hE e15 hp h5 hw ha1 t1 d1 f1 hs
      have hs1 : ersP g T 0 a1 b1 = if byt g T a1 = 119 then .inr (3, a1) else if byt g T a1 = -1 then .inl b1 else .inr (1, a1) := rfl
      refine b_X8_isBand_88 hX ?_
      conv => whnf
      refine ⟨fun q => absurd q (by decide), fun _ => ?_⟩
      conv => whnf
      rw [t1.2.2.1, t1.1]
      have hT1 := t1.2.1
      refine ⟨fun q => ?_, fun q => ?_⟩
      · have z : byt g T a1 = -1 := if_neg (by have := (le_nI (by omega) (by omega)).mp q; omega)
        refine b_X8_isBand_111 hX ?_
        conv => whnf
        exact ⟨Or.inr rfl, h1 M1 b1 (by rw [hs, hs1, if_neg (by rw [z]; decide), if_pos z]) d1 f1⟩
      · have hlt : a1 < T := by
          rcases Nat.lt_or_ge a1 T with z | z
          · exact z
          · exact absurd ((le_nI (by omega) (by omega)).mpr z) q
        have hn1 : ¬ byt g T a1 = -1 := by unfold byt; rw [if_pos hlt]; exact hg a1
        conv => whnf
        refine ⟨by omega, m_takesEar hC (by omega) t1 ha1 d1 hp h5 hw e15 (by omega) (fun z M2 h f => ?_) (fun z _ M2 h f => ?_) (fun z z2 => absurd z2 (by omega)) (fun z z2 => absurd z2 (by omega))⟩
        · conv => whnf
          exact bad88 M2 1 a1 (by rw [hs, hs1, if_neg z, if_neg hn1]) h (f1.tr f)
        · conv => whnf
          exact bad88 M2 3 a1 (by rw [hs, hs1, if_pos z]) h (f1.tr f)
    | succ n ih =>
      intro E a1 b1 M1 hE e15 hp h5 hw ha1 t1 d1 f1 hs
      have hs1 : ersP g T (n + 1) a1 b1 = if byt g T a1 = 119 then earP g T a1 b1 (fun a b => ersP g T n a b) else if byt g T a1 = -1 then .inl b1 else .inr (1, a1) := rfl
      refine b_X8_isBand_88 hX ?_
      conv => whnf
      refine ⟨fun q => absurd q (by decide), fun _ => ?_⟩
      conv => whnf
      rw [t1.2.2.1, t1.1]
      have hT1 := t1.2.1
      refine ⟨fun q => ?_, fun q => ?_⟩
      · have z : byt g T a1 = -1 := if_neg (by have := (le_nI (by omega) (by omega)).mp q; omega)
        refine b_X8_isBand_111 hX ?_
        conv => whnf
        exact ⟨Or.inr rfl, h1 M1 b1 (by rw [hs, hs1, if_neg (by rw [z]; decide), if_pos z]) d1 f1⟩
      · have hlt : a1 < T := by
          rcases Nat.lt_or_ge a1 T with z | z
          · exact z
          · exact absurd ((le_nI (by omega) (by omega)).mpr z) q
        have hn1 : ¬ byt g T a1 = -1 := by unfold byt; rw [if_pos hlt]; exact hg a1
        conv => whnf
        refine ⟨by omega, m_takesEar hC (by omega) t1 ha1 d1 hp h5 hw e15 (by omega) (fun z M2 h f => ?_) (fun _ z2 => absurd z2 (by omega)) (fun z _ M2 a2 p v e hp25 hv l t dd e2 f => ?_) (fun z _ M2 f p e h fm => ?_)⟩
        · conv => whnf
          exact bad88 M2 1 a1 (by rw [hs, hs1, if_neg z, if_neg hn1]) h (f1.tr f)
        · conv => whnf
          refine ih (E + 1) a2 (setB b1 (36 + p) v) M2 (by omega) e2 (by rw [setB_ne (by omega), nP_setB (by omega)]; exact hp) (by rw [nP_setB (by omega)]; exact h5) (fun j hj => ?_) l t dd (f1.tr f) (by rw [hs, hs1, if_pos z, e])
          by_cases y : j = p
          · subst y; rw [setB_at]; exact hv
          · rw [setB_ne (by omega)]; exact hw j hj
        · conv => whnf
          exact bad88 M2 f p (by rw [hs, hs1, if_pos z, e]) h (f1.tr fm)
  have ply : ∀ (n a1 : Nat) (b1 : BV) (M1 : MT), nP b1 + n = 5 → 0 < nP b1 → M1 61 15 = nI 0 → b1 5 = nI (nP b1) → (∀ e, e < 25 → b1 (36 + e) = 0) → a1 ≤ T → TMo g T a1 M1 → Dm b1 M1 → Fe M M1 → bandP g T = plsP g T (fun a b => ersP g T 12 a b) n a1 b1 → X 62 [some (.ref 61), some (.int 1)] [] M1 := by
    intro n
    induction n with
    | zero =>
      intro a1 b1 M1 hn h0P e15 hp hw ha1 t1 d1 f1 hs
      have hT1 := t1.2.1
      have hs1 : plsP g T (fun a b => ersP g T 12 a b) 0 a1 b1 = if kindO (byt g T a1) = 0 then (if nP b1 = 0 then .inr (1, a1) else ersP g T 12 a1 b1) else .inr (3, a1) := rfl
      have e88 : kindO (byt g T a1) = 0 → X 88 [some (.ref 61), some (.int 1)] [] M1 := fun z => ears 12 0 a1 b1 M1 (by omega) e15 hp (by omega) (fun e he => ⟨0, by omega, hw e he⟩) ha1 t1 d1 f1 (by rw [hs, hs1, if_pos z, if_neg (by omega)])
      refine b_X8_isBand_62 hX ?_
      conv => whnf
      refine ⟨fun q => absurd q (by decide), fun _ => ?_⟩
      conv => whnf
      rw [t1.2.2.1]
      refine ⟨by omega, m_byteAt hC t1 (by omega) ?_⟩
      conv => whnf
      refine ⟨by omega, m_sortOf hC ?_⟩
      conv => whnf
      refine ⟨fun q => e88 (kO_le q), fun q => ?_⟩
      have z : ¬ kindO (byt g T a1) = 0 := fun z => q (by rw [z]; decide)
      conv => whnf
      refine ⟨by omega, m_takesPlayer hC (by omega) t1 ha1 d1 hp (by omega) (fun y => absurd y z) (fun _ _ M2 h f => ?_) (fun _ y => absurd y (by omega)) (fun _ y => absurd y (by omega))⟩
      conv => whnf
      exact bad62 M2 3 a1 (by rw [hs, hs1, if_neg z]) h (f1.tr f.fe)
    | succ n ih =>
      intro a1 b1 M1 hn h0P e15 hp hw ha1 t1 d1 f1 hs
      have hT1 := t1.2.1
      have hs1 : plsP g T (fun a b => ersP g T 12 a b) (n + 1) a1 b1 = if kindO (byt g T a1) = 0 then (if nP b1 = 0 then .inr (1, a1) else ersP g T 12 a1 b1) else plyP g T a1 b1 (fun a b => plsP g T (fun a b => ersP g T 12 a b) n a b) := rfl
      have e88 : kindO (byt g T a1) = 0 → X 88 [some (.ref 61), some (.int 1)] [] M1 := fun z => ears 12 0 a1 b1 M1 (by omega) e15 hp (by omega) (fun e he => ⟨0, by omega, hw e he⟩) ha1 t1 d1 f1 (by rw [hs, hs1, if_pos z, if_neg (by omega)])
      refine b_X8_isBand_62 hX ?_
      conv => whnf
      refine ⟨fun q => absurd q (by decide), fun _ => ?_⟩
      conv => whnf
      rw [t1.2.2.1]
      refine ⟨by omega, m_byteAt hC t1 (by omega) ?_⟩
      conv => whnf
      refine ⟨by omega, m_sortOf hC ?_⟩
      conv => whnf
      refine ⟨fun q => e88 (kO_le q), fun q => ?_⟩
      have z : ¬ kindO (byt g T a1) = 0 := fun z => q (by rw [z]; decide)
      conv => whnf
      refine ⟨by omega, m_takesPlayer hC (by omega) t1 ha1 d1 hp (by omega) (fun y => absurd y z) (fun _ y => absurd y (by omega)) (fun _ _ M2 a2 v h e l t dd f => ?_) (fun _ _ M2 f p e h fm => ?_)⟩
      · have eP : nP (plB g T a1 b1 v h) = nP b1 + 1 := by
          show (setB _ 5 _ 5).toNatClampNeg = _
          rw [setB_at]; exact nI_clamp (by omega)
        conv => whnf
        exact ih a2 (plB g T a1 b1 v h) M2 (by omega) (by omega) (by rw [f.2.1 15 (by omega)]; exact e15) (by rw [eP]; exact setB_at) (fun j hj => by unfold plB; rw [setB_ne (by omega), setB_ne (by omega), setB_ne (by omega), setB_ne (by omega)]; exact hw j hj) l t dd (f1.tr f.fe) (by rw [hs, hs1, if_neg z, e])
      · conv => whnf
        exact bad62 M2 f p (by rw [hs, hs1, if_neg z, e]) h (f1.tr fm.fe)
  have b60 : ∀ (M' : MT) (x f : Int32) (p : Nat), bandP g T = .inr (f, p) → FLm f p M' → Fe M M' → X 60 [some (.ref 61), some (.int x)] [] M' := fun M' x f p hk hf fm => by
    refine b_X8_isBand_60 hX ?_
    conv => whnf
    refine b_X8_isBand_61 hX ?_
    conv => whnf
    exact bad62 M' f p hk hf fm
  have b25 : ∀ (M1 : MT), Dm (fun _ => 0) M1 → (M1 61 9 = nI T ∧ T ≤ 140 ∧ ∀ i, i < 140 → M1 68 i = g i) → Fe M M1 → X 25 [some (.ref 61), some (.int (nI 61))] [] M1 := by
    intro M1 d1 t1 f1
    have t2 : TMo g T 0 (wr (wr M1 61 11 0) 61 15 0) := ⟨by rw [wr_ne (by decide), wr_ne (by decide)]; exact t1.1, t1.2.1, by rw [wr_ne (by decide), wr_at]; rfl, fun i hi => by rw [wr_off (by decide), wr_off (by decide)]; exact t1.2.2 i hi⟩
    have x2 : wr (wr M1 61 11 0) 61 15 0 61 15 = nI 0 := by rw [wr_at]; rfl
    have d2 : Dm (fun _ => 0) (wr (wr M1 61 11 0) 61 15 0) := d1.s.s
    have f2 : Fe M (wr (wr M1 61 11 0) 61 15 0) := Fe.s (Fe.s f1 (by decide) (by decide)) (by decide) (by decide)
    refine b_X8_isBand_25 hX ?_
    conv => whnf
    revert t2 x2 d2 f2
    generalize wr (wr M1 61 11 0) 61 15 0 = M2
    intro t2 x2 d2 f2
    refine ⟨by omega, m_takesLaw hC (by omega) t2 d2 (fun M3 a3 v0 v1 v2 v3 e3 l3 t3 d3 f3 => ?_) (fun N f p e h fm => ?_)⟩
    rotate_left
    · conv => whnf
      exact ⟨fun _ => b60 N _ f p (by unfold bandP; exact e _) h (f2.tr fm.fe), fun z => absurd rfl z⟩
    conv => whnf
    refine ⟨fun q => absurd q (by decide), fun _ => ?_⟩
    conv => whnf
    refine ⟨by omega, m_takesSong hC (by omega) t3 l3 d3 rfl (fun M4 a4 b4 e4 l4 t4 d4 e45 f4 => ?_) (fun N f p e h fm => ?_)⟩
    rotate_left
    · conv => whnf
      exact ⟨fun _ => b60 N _ f p (by unfold bandP; rw [e3]; exact e _) h ((f2.tr f3.fe).tr fm.fe), fun z => absurd rfl z⟩
    have hz5 : b4 5 = 0 := by rw [e45 5 (Or.inl rfl)]; rfl
    have hzP : nP b4 = 0 := by unfold nP; rw [hz5]; rfl
    have hs : bandP g T = plsP g T (fun a b => ersP g T 12 a b) 5 a4 b4 := by unfold bandP; rw [e3, e4]
    have hs1 : plsP g T (fun a b => ersP g T 12 a b) 5 a4 b4 = if kindO (byt g T a4) = 0 then (if nP b4 = 0 then .inr (1, a4) else ersP g T 12 a4 b4) else plyP g T a4 b4 (fun a b => plsP g T (fun a b => ersP g T 12 a b) 4 a b) := rfl
    have f24 : Fe M M4 := (f2.tr f3.fe).tr f4.fe
    conv => whnf
    refine ⟨fun q => absurd q (by decide), fun _ => ?_⟩
    conv => whnf
    refine ⟨by omega, m_takesPlayer hC (by omega) t4 l4 d4 (by rw [hzP, hz5]; rfl) (by omega) (fun z M5 h f => ?_) (fun _ y => absurd y (by omega)) (fun z _ M5 a5 v h e l t dd f => ?_) (fun z _ M5 f p e h fm => ?_)⟩
    · conv => whnf
      exact ⟨fun _ => b60 M5 _ 1 a4 (by rw [hs, hs1, if_pos z, if_pos hzP]) h (f24.tr f.fe), fun z => absurd rfl z⟩
    · have eP : nP (plB g T a4 b4 v h) = nP b4 + 1 := by
        show (setB _ 5 _ 5).toNatClampNeg = _
        rw [setB_at]; exact nI_clamp (by omega)
      have go := ply 4 a5 (plB g T a4 b4 v h) M5 (by omega) (by omega) (by rw [f.2.1 15 (by omega), f4.2.1 15 (by omega), f3.2.1 15 (by omega)]; exact x2) (by rw [eP]; exact setB_at) (fun j hj => by
        unfold plB
        rw [setB_ne (by omega), setB_ne (by omega), setB_ne (by omega), setB_ne (by omega), e45 _ (Or.inr (by omega)), setB_ne (by omega), setB_ne (by omega), setB_ne (by omega), setB_ne (by omega)]) l t dd (f24.tr f.fe) (by rw [hs, hs1, if_neg z, e])
      conv => whnf
      refine ⟨fun q => absurd q (by decide), fun _ => ?_⟩
      conv => whnf
      first
        | exact go
        | (refine b_X8_isBand_61 hX ?_
           conv => whnf
           exact go)
    · conv => whnf
      exact ⟨fun _ => b60 M5 _ f p (by rw [hs, hs1, if_neg z, e]) h (f24.tr fm.fe), fun z => absurd rfl z⟩
  have clr : ∀ (m k : Nat) (M1 : MT), k + m = 61 → (∀ j, j < k → M1 62 (183 + j) = 0) → (M1 61 9 = nI T ∧ T ≤ 140 ∧ ∀ i, i < 140 → M1 68 i = g i) → Fe M M1 → X 2 [some (.ref 61), some (.int (nI k))] [] M1 := by
    intro m
    induction m with
    | zero =>
      intro k M1 hk h2 t1 f1
      have hk : k = 61 := by omega
      subst hk
      refine b_X8_isBand_2 hX ?_
      conv => whnf
      exact ⟨fun q => b25 M1 (fun j hj => h2 j hj) t1 f1, fun q => absurd (by decide) q⟩
    | succ m ih =>
      intro k M1 hk h2 t1 f1
      refine b_X8_isBand_2 hX ?_
      conv => whnf
      refine ⟨fun q => absurd ((le_nI (a := 61) (by omega) (by omega)).mp q) (by omega), fun q => ?_⟩
      conv => whnf
      refine ⟨183 + k, (by simp only [lit_nI, nI_add, nI_mul]), by omega, ?_⟩
      conv => whnf
      rw [nI_1]
      refine ih (k + 1) _ (by omega) (fun j hj => ?_) ⟨by rw [wr_off (by decide)]; exact t1.1, t1.2.1, fun i hi => by rw [wr_off (by decide)]; exact t1.2.2 i hi⟩ (Fe.d f1 (by omega))
      by_cases z : j = k
      · subst z; exact wr_at
      · rw [wr_ne (by omega)]; exact h2 j (by omega)
  refine b_X8_isBand_0 hX ?_
  conv => whnf
  exact clr 61 0 M (by omega) (fun j hj => absurd hj (by omega)) hT ⟨fun _ _ _ => rfl, fun _ _ => rfl, fun _ _ => rfl⟩
