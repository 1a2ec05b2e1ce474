theorem noP_succ {n hi k : Nat} (h : noP n hi (k + 1) = true) : isP n (hi - (k + 1)) = false ∧ noP n hi k = true := by
  have h : and (not (isP n (hi - (k + 1)))) (noP n hi k) = true := h
  simpa using h
theorem agr_ok {n c : Nat} {g : Nat → Nat} : ∀ (k : Nat), agr n c g k = true → ∀ i, i < k → g i = dg n c i := by
  intro k
  induction k with
  | zero => intro _ i hi; exact absurd hi (by omega)
  | succ k ih =>
    intro h i hi
    have h : (agr n c g k && Nat.beq (g k) (dg n c k)) = true := h
    rw [Bool.and_eq_true] at h
    by_cases z : i = k
    · subst z; exact Nat.eq_of_beq_eq_true h.2
    · exact ih h.1 i (by omega)
theorem dg_lt {n c i : Nat} (hn : 0 < n) : dg n c i < n := Nat.mod_lt _ hn
def ad (a b : Nat) : Nat := (a - b) + (b - a)
theorem abs_ad {a b : Nat} (ha : a ≤ 2500) (hb : b ≤ 2500) : abs32 (nI a - nI b) = nI (ad a b) := by
  unfold abs32 ad
  rcases Nat.lt_or_ge a b with h | h
  · have h1 : ¬ (0 : Int32) ≤ nI a - nI b := by
      rw [Int32.le_iff_toInt_le, pk_sub_toInt (by omega) (by omega)]
      have : (0 : Int32).toInt = 0 := by decide
      omega
    rw [if_neg h1, Int32.zero_sub, Int32.neg_sub, pk_sub (by omega), show a - b + (b - a) = b - a by omega]
  · rw [pk_sub h, if_pos (nI_pos' (by omega)), show a - b + (b - a) = a - b by omega]
def cL (it f : Nat → Nat) : Nat → Nat
  | 0 => 0
  | k + 1 => cL it f k + ad (it (f (k + 1))) (it (f k))
def ofs (n : Nat) (it : Nat → Nat) (c : Nat) : Nat := if isP n c = true then cL it (dg n c) (n - 1) else 1000000000
def sgS (n : Nat) (it : Nat → Nat) : Nat → Nat × Nat
  | 0 => (0, 1000000000)
  | c + 1 => if ofs n it c < (sgS n it c).2 then (c, ofs n it c) else sgS n it c
theorem cL_le {it f : Nat → Nat} : ∀ (k : Nat), (∀ i, i ≤ k → it (f i) ≤ 2500) → cL it f k ≤ 2500 * k := by
  intro k
  induction k with
  | zero => intro _; exact Nat.le_refl 0
  | succ k ih =>
    intro h
    have := ih (fun i hi => h i (by omega))
    have h1 := h (k + 1) (by omega)
    have h2 := h k (by omega)
    show cL it f k + ad (it (f (k + 1))) (it (f k)) ≤ _
    unfold ad
    omega
theorem sg_le {n : Nat} {it : Nat → Nat} : ∀ c, (sgS n it c).2 ≤ 1000000000 := by
  intro c
  induction c with
  | zero => exact Nat.le_refl _
  | succ c ih =>
    unfold sgS
    by_cases z : ofs n it c < (sgS n it c).2
    · rw [if_pos z]; show ofs n it c ≤ _; omega
    · rw [if_neg z]; exact ih
theorem sg_skip {n : Nat} {it : Nat → Nat} {hi : Nat} : ∀ (k : Nat), k ≤ hi → noP n hi k = true → sgS n it hi = sgS n it (hi - k) := by
  intro k
  induction k with
  | zero => intro _ _; rfl
  | succ k ih =>
    intro hk h
    obtain ⟨h1, h2⟩ := noP_succ h
    rw [ih (by omega) h2, show hi - k = (hi - (k + 1)) + 1 by omega]
    have := sg_le (n := n) (it := it) (hi - (k + 1))
    exact if_neg (by unfold ofs; rw [h1]; rw [if_neg (by decide)]; omega)
/-! the class's orders -/
theorem nI_two {m : Nat} : nI (m + 1) - 2 = nI m - 1 := by
  rw [Int32.sub_eq_add_neg, Int32.sub_eq_add_neg, ← nI_1, Int32.add_assoc]
  rfl
theorem c_changes {C : CC} (hC : Clo C) {d : Nat} (hd : 1 ≤ d) {M : MT} {K : KT} {n : Nat} {it f : Nat → Nat} (hn : n ≤ 6) (hn1 : 1 ≤ n) (hf : ∀ i, i < n → f i < n ∧ M 42 i = nI (f i)) (hit : ∀ q, q < n → it q ≤ 2500 ∧ M 5 q = nI (it q)) (hK : K (some (.int (nI (cL it f (n - 1))))) M) : C d 27 [.ref 41, .ref 5, .int (nI n)] M K := by
  refine g_X3_changes hC (fun X hX => ?_)
  have loop : ∀ (m k : Nat), k + 1 + m = n → X 5 [some (.ref 41), some (.ref 5), some (.int (nI n)), some (.int (nI (cL it f k))), some (.int (nI (k + 1)))] [] M := by
    intro m
    induction m with
    | zero =>
      intro k hk
      have hk : n = k + 1 := by omega
      subst hk
      refine b_X3_changes_5 hX ?_
      conv => whnf
      refine ⟨fun q => ?_, fun q => absurd (nI_le (by omega) (by omega)) q⟩
      refine b_X3_changes_44 hX ?_
      conv => whnf
      exact hK
    | succ m ih =>
      intro k hk
      obtain ⟨f1, e1⟩ := hf (k + 1) (by omega)
      obtain ⟨f0, e0⟩ := hf k (by omega)
      refine b_X3_changes_5 hX ?_
      conv => whnf
      refine ⟨fun q => absurd q (nI_ge (by omega) (by omega)), fun q => ?_⟩
      conv => whnf
      refine ⟨k + 1, rfl, by omega, ?_⟩
      conv => whnf
      refine ⟨f (k + 1), e1, by omega, ?_⟩
      conv => whnf
      refine ⟨k, nI_pre, by omega, ?_⟩
      conv => whnf
      refine ⟨f k, e0, by omega, ?_⟩
      conv => whnf
      rw [(hit _ f1).2, (hit _ f0).2, abs_ad (hit _ f1).1 (hit _ f0).1]
      refine ⟨by omega, ?_⟩
      conv => whnf
      rw [nI_add, nI_1]
      exact ih (k + 1) (by omega)
  refine b_X3_changes_0 hX ?_
  conv => whnf
  exact loop (n - 1) 0 (by omega)
theorem c_swap {C : CC} (hC : Clo C) {d : Nat} {M : MT} {K : KT} {i j : Nat} (hi : i < 6) (hj : j < 6) (hK : K none (wr (wr M 42 i (M 42 j)) 42 j (M 42 i))) : C d 29 [.ref 41, .int (nI i), .int (nI j)] M K := by
  refine g_X3_swap hC (fun X hX => ?_)
  refine b_X3_swap_0 hX ?_
  conv => whnf
  refine ⟨i, rfl, by omega, ?_⟩
  conv => whnf
  refine ⟨j, rfl, by omega, ?_⟩
  conv => whnf
  refine ⟨i, rfl, by omega, ?_⟩
  conv => whnf
  refine ⟨j, rfl, by omega, ?_⟩
  conv => whnf
  exact hK
theorem swp_ok {M : MT} {n i j : Nat} {f : Nat → Nat} (hf : ∀ k, k < n → M 42 k = nI (f k)) (hi : i < n) (hj : j < n) : ∀ k, k < n → wr (wr M 42 i (M 42 j)) 42 j (M 42 i) 42 k = nI (swp f i j k) := by
  intro k hk
  unfold swp
  by_cases z : k = j
  · subst z; rw [wr_at, if_pos rfl, hf i hi]
  · rw [wr_ne z, if_neg z]
    by_cases z2 : k = i
    · subst z2; rw [wr_at, if_pos rfl, hf j hj]
    · rw [wr_ne z2, if_neg z2, hf k hk]
theorem swp_lt {n i j : Nat} {f : Nat → Nat} (hf : ∀ k, k < n → f k < n) (hi : i < n) (hj : j < n) : ∀ k, k < n → swp f i j k < n := by
  intro k hk
  unfold swp
  by_cases z : k = j
  · rw [if_pos z]; exact hf i hi
  · rw [if_neg z]
    by_cases z2 : k = i
    · rw [if_pos z2]; exact hf j hj
    · rw [if_neg z2]; exact hf k hk
theorem c_step {C : CC} (hC : Clo C) {d : Nat} (hd : 1 ≤ d) {M : MT} {K : KT} {n : Nat} {f : Nat → Nat} (hn : n ≤ 6) (hn1 : 1 ≤ n) (hf : ∀ i, i < n → M 42 i = nI (f i)) (hl : ∀ i, i < n → f i < n) (h0 : pv f (n - 1) = 0 → K (some (.int 0)) M) (h1 : ∀ i M', pv f (n - 1) = i + 1 → Fm M M' 42 42 → (∀ k, k < n → M' 42 k = nI (stp1 n f i k)) → K (some (.int 1)) M') : C d 28 [.ref 41, .int (nI n)] M K := by
  refine g_X3_step hC (fun X hX => ?_)
  have loop3 : ∀ (k l r i jj : Nat) (g : Nat → Nat) (M' : MT), pv f (n - 1) = i + 1 → 1 ≤ l → r < n → r ≤ l + k → l ≤ n → Fm M M' 42 42 → (∀ q, q < n → M' 42 q = nI (g q)) → rv k l r g = stp1 n f i → X 83 [some (.ref 41), some (.int (nI n)), some (.int (nI i)), some (.int (nI jj)), some (.int (nI l)), some (.int (nI r))] [] M' := by
    intro k
    induction k with
    | zero =>
      intro l r i jj g M' hp hl1 hr hlr hln hfm hg hrv
      refine b_X3_step_83 hX ?_
      conv => whnf
      refine ⟨fun q => ?_, fun q => absurd ((le_nI (by omega) (by omega)).mpr (by omega)) q⟩
      refine b_X3_step_107 hX ?_
      conv => whnf
      have hrv : g = stp1 n f i := hrv
      exact ⟨Or.inr rfl, h1 i M' hp hfm (by rw [← hrv]; exact hg)⟩
    | succ k ih =>
      intro l r i jj g M' hp hl1 hr hlr hln hfm hg hrv
      have hrv : (if l < r then rv k (l + 1) (r - 1) (swp g l r) else g) = stp1 n f i := hrv
      refine b_X3_step_83 hX ?_
      conv => whnf
      refine ⟨fun q => ?_, fun q => ?_⟩
      · have z : ¬ l < r := by have := (le_nI (by omega) (by omega)).mp q; omega
        rw [if_neg z] at hrv
        refine b_X3_step_107 hX ?_
        conv => whnf
        exact ⟨Or.inr rfl, h1 i M' hp hfm (by rw [← hrv]; exact hg)⟩
      · have z : l < r := by
          rcases Nat.lt_or_ge l r with z | z
          · exact z
          · exact absurd ((le_nI (by omega) (by omega)).mpr z) q
        rw [if_pos z] at hrv
        conv => whnf
        refine ⟨by omega, c_swap hC (by omega) (by omega) ?_⟩
        conv => whnf
        obtain ⟨r', rfl⟩ : ∃ r', r = r' + 1 := ⟨r - 1, by omega⟩
        rw [nI_1, nI_dec]
        exact ih (l + 1) r' i jj _ _ hp (by omega) (by omega) (by omega) (by omega) (Fm.wr (Fm.wr hfm (by decide) (by decide)) (by decide) (by decide)) (swp_ok hg (by omega) hr) hrv
  have b67 : ∀ (i jj : Nat), pv f (n - 1) = i + 1 → i + 1 < n → jj < n → fj f i (n - 1) = jj → X 67 [some (.ref 41), some (.int (nI n)), some (.int (nI i)), some (.int (nI jj)), none, none] [] M := by
    intro i jj hp hi hj he
    refine b_X3_step_67 hX ?_
    conv => whnf
    refine ⟨by omega, c_swap hC (by omega) (by omega) ?_⟩
    conv => whnf
    obtain ⟨n', rfl⟩ : ∃ n', n = n' + 1 := ⟨n - 1, by omega⟩
    rw [nI_1, nI_pre]
    exact loop3 (n' + 1) (i + 1) n' i jj _ _ hp (by omega) (by omega) (by omega) (by omega) (Fm.wr (Fm.wr Fm.rf (by decide) (by decide)) (by decide) (by decide)) (swp_ok hf (by omega) hj) (by unfold stp1; rw [he]; rfl)
  have loop2 : ∀ (j i : Nat), pv f (n - 1) = i + 1 → i + 1 < n → j < n → fj f i (n - 1) = fj f i j → X 41 [some (.ref 41), some (.int (nI n)), some (.int (nI i)), some (.int (nI j)), none, none] [] M := by
    intro j
    induction j with
    | zero =>
      intro i hp hi hj he
      refine b_X3_step_41 hX ?_
      conv => whnf
      refine ⟨fun q => b67 i 0 hp hi hj he, fun q => absurd ((le_nI (by omega) (by omega)).mpr (by omega)) q⟩
    | succ j ih =>
      intro i hp hi hj he
      have he2 : fj f i (j + 1) = if j + 1 ≤ i then j + 1 else if f i ≤ f (j + 1) then j + 1 else fj f i j := rfl
      refine b_X3_step_41 hX ?_
      conv => whnf
      refine ⟨fun q => ?_, fun q => ?_⟩
      · exact b67 i (j + 1) hp hi hj (by rw [he, he2, if_pos ((le_nI (by omega) (by omega)).mp q)])
      · have z : ¬ j + 1 ≤ i := fun z => q ((le_nI (by omega) (by omega)).mpr z)
        have hfi := hl i (by omega)
        have hfj := hl (j + 1) hj
        conv => whnf
        refine ⟨j + 1, rfl, by omega, ?_⟩
        conv => whnf
        refine ⟨i, rfl, by omega, ?_⟩
        conv => whnf
        rw [hf (j + 1) hj, hf i (by omega)]
        refine ⟨fun q => ?_, fun q => ?_⟩
        · exact b67 i (j + 1) hp hi hj (by rw [he, he2, if_neg z, if_pos ((le_nI (by omega) (by omega)).mp q)])
        · conv => whnf
          rw [nI_dec]
          exact ih i hp hi (by omega) (by rw [he, he2, if_neg z, if_neg (fun z2 => q ((le_nI (by omega) (by omega)).mpr z2))])
  have loop1 : ∀ (j : Nat), j < n → pv f (n - 1) = pv f j → X 4 [some (.ref 41), some (.int (nI n)), some (.int (nI j - 1)), none, none, none] [] M := by
    intro j
    induction j with
    | zero =>
      intro hj he
      refine b_X3_step_4 hX ?_
      conv => whnf
      refine ⟨fun q => ?_, fun q => absurd (by decide) q⟩
      refine b_X3_step_31 hX ?_
      conv => whnf
      refine ⟨fun q => absurd q (by decide), fun _ => ?_⟩
      conv => whnf
      exact ⟨Or.inl rfl, h0 he⟩
    | succ j ih =>
      intro hj he
      have he2 : pv f (j + 1) = if f j ≤ f (j + 1) then j + 1 else pv f j := rfl
      have hfi := hl j (by omega)
      have hfj := hl (j + 1) hj
      rw [nI_pre]
      refine b_X3_step_4 hX ?_
      conv => whnf
      refine ⟨fun q => absurd q (nI_pos (by omega)), fun q => ?_⟩
      conv => whnf
      refine ⟨j, rfl, by omega, ?_⟩
      conv => whnf
      refine ⟨j + 1, (by simp only [lit_nI, nI_add, nI_mul]), by omega, ?_⟩
      conv => whnf
      rw [hf (j + 1) hj, hf j (by omega)]
      refine ⟨fun q => ?_, fun q => ?_⟩
      · rw [he2, if_pos ((le_nI (by omega) (by omega)).mp q)] at he
        refine b_X3_step_31 hX ?_
        conv => whnf
        refine ⟨fun _ => ?_, fun q => absurd (nI_pos' (by omega)) q⟩
        refine b_X3_step_37 hX ?_
        conv => whnf
        obtain ⟨n', rfl⟩ : ∃ n', n = n' + 1 := ⟨n - 1, by omega⟩
        rw [nI_pre]
        exact loop2 n' j he hj (by omega) rfl
      · rw [he2, if_neg (fun z2 => q ((le_nI (by omega) (by omega)).mpr z2))] at he
        conv => whnf
        rw [show nI j + -1 = nI j - 1 by rw [Int32.sub_eq_add_neg]]
        exact ih (by omega) he
  refine b_X3_step_0 hX ?_
  conv => whnf
  obtain ⟨n', rfl⟩ : ∃ n', n = n' + 1 := ⟨n - 1, by omega⟩
  rw [nI_two]
  exact loop1 n' (by omega) rfl
theorem chn_all {n : Nat} (h1 : 1 ≤ n) (h6 : n ≤ 6) : ∃ c t, chn n (c :: t) = true ∧ t.length < 720 ∧ noP n c c = true ∧ agr n c (fun i => i) n = true := by
  have : n = 1 ∨ n = 2 ∨ n = 3 ∨ n = 4 ∨ n = 5 ∨ n = 6 := by omega
  rcases this with rfl | rfl | rfl | rfl | rfl | rfl
  · exact ⟨_, _, chn_1, by decide +kernel, hd_1.1, hd_1.2⟩
  · exact ⟨_, _, chn_2, by decide +kernel, hd_2.1, hd_2.2⟩
  · exact ⟨_, _, chn_3, by decide +kernel, hd_3.1, hd_3.2⟩
  · exact ⟨_, _, chn_4, by decide +kernel, hd_4.1, hd_4.2⟩
  · exact ⟨_, _, chn_5, by decide +kernel, hd_5.1, hd_5.2⟩
  · exact ⟨_, _, chn_6, by decide +kernel, hd_6.1, hd_6.2⟩
def LB (n : Nat) (it : Nat → Nat) (c : Nat) (M : MT) : Prop := (M 41 2 = 2147483647 ∧ (sgS n it c).2 = 1000000000) ∨ (M 41 2 = nI (sgS n it c).2 ∧ (sgS n it c).2 < 1000000000 ∧ ∀ i, i < n → M 43 i = nI (dg n (sgS n it c).1 i))
theorem c_findLeast {C : CC} (hC : Clo C) {d : Nat} (hd : 2 ≤ d) {M : MT} {K : KT} {n : Nat} {it : Nat → Nat} (hn : n ≤ 6) (hn1 : 1 ≤ n) (hit : ∀ q, q < n → it q ≤ 2500 ∧ M 5 q = nI (it q)) (hK : ∀ M', M' 41 2 = nI (sgS n it (Nat.pow n n)).2 → (∀ i, i < n → M' 43 i = nI (dg n (sgS n it (Nat.pow n n)).1 i)) → Fm M M' 41 43 → K none M') : C d 26 [.ref 41, .ref 5, .int (nI n)] M K := by
  obtain ⟨c0, t0, hch, htl, hno, hag⟩ := chn_all hn1 hn
  refine g_X3_findLeast hC (fun X hX => ?_)
  have fin : ∀ (x y : Int32) (o : Option Value) (M' : MT), LB n it (Nat.pow n n) M' → (sgS n it (Nat.pow n n)).2 < 1000000000 → Fm M M' 41 43 → X 92 [some (.ref 41), some (.ref 5), some (.int (nI n)), some (.int x), some (.int y), o] [] M' := by
    intro x y o M' hb hs f
    rcases hb with ⟨-, e⟩ | ⟨e1, -, e2⟩
    · omega
    refine b_X3_findLeast_92 hX ?_
    conv => whnf
    exact hK M' e1 e2 f
  have ev : ∀ (c k : Nat) (o : Option Value) (M' : MT), isP n c = true → k < 720 → (∀ i, i < n → M' 42 i = nI (dg n c i)) → LB n it c M' → Fm M M' 41 43 → (∀ (M2 : MT) (o : Option Value), (∀ i, i < n → M2 42 i = nI (dg n c i)) → LB n it (c + 1) M2 → (sgS n it (c + 1)).2 < 1000000000 → Fm M M2 41 43 → X 80 [some (.ref 41), some (.ref 5), some (.int (nI n)), some (.int 1), some (.int (nI k)), o] [] M2) → X 31 [some (.ref 41), some (.ref 5), some (.int (nI n)), some (.int 1), some (.int (nI k)), o] [] M' := by
    intro c k o M' hc hk ho hb f cont
    have eo : ofs n it c = cL it (dg n c) (n - 1) := if_pos hc
    have hle : cL it (dg n c) (n - 1) ≤ 2500 * (n - 1) := cL_le (n - 1) (fun i hi => (hit _ (dg_lt (by omega))).1)
    have hs : sgS n it (c + 1) = if ofs n it c < (sgS n it c).2 then (c, ofs n it c) else sgS n it c := rfl
    rw [eo] at hs
    refine b_X3_findLeast_31 hX ?_
    conv => whnf
    refine ⟨fun q => absurd ((le_nI (a := 720) (by omega) (by omega)).mp q) (by omega), fun q => ?_⟩
    conv => whnf
    refine ⟨fun q => absurd q (by decide), fun _ => ?_⟩
    conv => whnf
    refine ⟨by omega, c_changes (f := dg n c) hC (by omega) hn hn1 (fun i hi => ⟨dg_lt (by omega), ho i hi⟩) (fun q hq => ⟨(hit q hq).1, by rw [f 5 (by decide)]; exact (hit q hq).2⟩) ?_⟩
    conv => whnf
    have hitc : cL it (dg n c) (n - 1) < (sgS n it c).2 → X 80 [some (.ref 41), some (.ref 5), some (.int (nI n)), some (.int 1), some (.int (nI k)), some (.int (nI (cL it (dg n c) (n - 1))))] [] (cp (wr M' 41 2 (nI (cL it (dg n c) (n - 1)))) 42 43 0 0 n) := fun z => by
      rw [if_pos z] at hs
      refine cont _ _ (fun i hi => ?_) (Or.inr ⟨?_, ?_, fun i hi => ?_⟩) ?_ (Fm.cp (Fm.wr f (by decide) (by decide)) (by decide) (by decide))
      · rw [cp_off (by decide), wr_off (by decide)]; exact ho i hi
      · rw [cp_off (by decide), wr_at, hs]
      · rw [hs]; show cL it (dg n c) (n - 1) < _; omega
      · rw [hs, ← ho i hi]
        simp [cp, va_cpy, wr, hi]
      · rw [hs]; show cL it (dg n c) (n - 1) < _; omega
    rcases hb with ⟨e1, e2⟩ | ⟨e1, e2, e3⟩
    · rw [e1]
      refine ⟨fun q => absurd ((le_nI (a := 2147483647) (by omega) (by omega)).mp q) (by omega), fun q => ?_⟩
      conv => whnf
      refine ⟨by omega, 0, 0, n, rfl, rfl, rfl, by omega, by omega, ?_⟩
      conv => whnf
      exact hitc (by omega)
    · rw [e1]
      refine ⟨fun q => ?_, fun q => ?_⟩
      · have z : ¬ cL it (dg n c) (n - 1) < (sgS n it c).2 := by have := (le_nI (by omega) (by omega)).mp q; omega
        rw [if_neg z] at hs
        exact cont M' _ ho (Or.inr (by rw [hs]; exact ⟨e1, e2, e3⟩)) (by rw [hs]; exact e2) f
      · have z : cL it (dg n c) (n - 1) < (sgS n it c).2 := by
          rcases Nat.lt_or_ge (cL it (dg n c) (n - 1)) (sgS n it c).2 with z | z
          · exact z
          · exact absurd ((le_nI (by omega) (by omega)).mpr z) q
        conv => whnf
        refine ⟨by omega, 0, 0, n, rfl, rfl, rfl, by omega, by omega, ?_⟩
        conv => whnf
        exact hitc z
  have loop2 : ∀ (t : List Nat) (c k : Nat) (o : Option Value) (M' : MT), chn n (c :: t) = true → k + t.length < 720 → (∀ i, i < n → M' 42 i = nI (dg n c i)) → LB n it c M' → Fm M M' 41 43 → X 31 [some (.ref 41), some (.ref 5), some (.int (nI n)), some (.int 1), some (.int (nI k)), o] [] M' := by
    intro t
    induction t with
    | nil =>
      intro c k o M' hc hk ho hb f
      have hc : (isP n c && lst n c) = true := hc
      unfold lst at hc
      simp only [Bool.and_eq_true] at hc
      obtain ⟨c1, c2, c3, c4⟩ := hc
      have c2 := Nat.eq_of_beq_eq_true c2
      have c4 : c + 1 ≤ Nat.pow n n := Nat.le_of_ble_eq_true c4
      have hk : k < 720 := by simpa using hk
      refine ev c k o M' c1 hk ho hb f (fun M2 o h1 h2 h3 h4 => ?_)
      have es : sgS n it (Nat.pow n n) = sgS n it (c + 1) := by
        rw [sg_skip _ (by omega) c3, show Nat.pow n n - (Nat.pow n n - c - 1) = c + 1 by omega]
      refine b_X3_findLeast_80 hX ?_
      conv => whnf
      refine ⟨by omega, c_step (f := dg n c) hC (by omega) hn hn1 h1 (fun i _ => dg_lt (by omega)) (fun _ => ?_) (fun i M3 e => by rw [c2] at e; exact absurd e (by omega))⟩
      conv => whnf
      have hb2 : LB n it (Nat.pow n n) M2 := by unfold LB; rw [es]; exact h2
      refine b_X3_findLeast_31 hX ?_
      conv => whnf
      refine ⟨fun q => fin _ _ _ M2 hb2 (by rw [es]; exact h3) h4, fun q => ?_⟩
      conv => whnf
      exact ⟨fun _ => fin _ _ _ M2 hb2 (by rw [es]; exact h3) h4, fun z => absurd rfl z⟩
    | cons c' t ih =>
      intro c k o M' hc hk ho hb f
      have hc : (isP n c && (lnk n c c' && chn n (c' :: t))) = true := hc
      simp only [Bool.and_eq_true] at hc
      obtain ⟨c1, c2, c3⟩ := hc
      have hk : k + (t.length + 1) < 720 := hk
      refine ev c k o M' c1 (by omega) ho hb f (fun M2 o h1 h2 h3 h4 => ?_)
      refine b_X3_findLeast_80 hX ?_
      conv => whnf
      refine ⟨by omega, c_step (f := dg n c) hC (by omega) hn hn1 h1 (fun i _ => dg_lt (by omega)) (fun e => ?_) (fun i M3 e f3 h5 => ?_)⟩
      · unfold lnk at c2
        rw [e] at c2
        exact absurd c2 Bool.false_ne_true
      unfold lnk at c2
      rw [e] at c2
      simp only [Bool.and_eq_true] at c2
      obtain ⟨d1, d2, d3⟩ := c2
      have d3 : c + 1 ≤ c' := Nat.le_of_ble_eq_true d3
      have es : sgS n it c' = sgS n it (c + 1) := by
        rw [sg_skip _ (by omega) d2, show c' - (c' - c - 1) = c + 1 by omega]
      conv => whnf
      rw [nI_1]
      refine ih c' (k + 1) o M3 c3 (by omega) (fun i hi => ?_) ?_ (h4.tr (f3.mono (by decide) (by decide)))
      · rw [h5 i hi, agr_ok n d1 i hi]
      · unfold LB
        rw [es, f3 41 (by decide), f3 43 (by decide)]
        exact h2
  have loop1 : ∀ (m k : Nat) (M' : MT), k + m = n → (∀ i, i < k → M' 42 i = nI i) → Fm M M' 42 42 → X 2 [some (.ref 41), some (.ref 5), some (.int (nI n)), some (.int (nI k)), none, none] [] M' := by
    intro m
    induction m with
    | zero =>
      intro k M' hk h1 f
      rw [Nat.add_zero] at hk
      subst hk
      refine b_X3_findLeast_2 hX ?_
      conv => whnf
      refine ⟨fun q => ?_, fun q => absurd (nI_le (by omega) (by omega)) q⟩
      refine b_X3_findLeast_20 hX ?_
      conv => whnf
      refine loop2 t0 c0 0 none _ hch (by omega) (fun i hi => ?_) (Or.inl ⟨wr_at, ?_⟩) (Fm.wr (f.mono (by decide) (by decide)) (by decide) (by decide))
      · rw [wr_off (by decide), h1 i hi]
        exact congrArg nI (agr_ok k hag i hi)
      · rw [sg_skip c0 (Nat.le_refl _) hno, Nat.sub_self]; rfl
    | succ m ih =>
      intro k M' hk h1 f
      refine b_X3_findLeast_2 hX ?_
      conv => whnf
      refine ⟨fun q => absurd q (nI_ge (by omega) (by omega)), fun q => ?_⟩
      conv => whnf
      refine ⟨k, rfl, by omega, ?_⟩
      conv => whnf
      rw [nI_1]
      refine ih (k + 1) _ (by omega) (fun i hi => ?_) (Fm.wr f (by decide) (by decide))
      by_cases z : i = k
      · subst z; exact wr_at
      · rw [wr_ne z]; exact h1 i (by omega)
  refine b_X3_findLeast_0 hX ?_
  conv => whnf
  exact loop1 n 0 M (by omega) (fun i hi => absurd hi (by omega)) Fm.rf
