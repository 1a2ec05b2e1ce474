/-! THE LAW: a call of the class and the same call of the reference answer alike -/
def LL (i : Nat) : LT := [some (.float 0), some (.ref 0), some (.ref 61), some (.int (nI i))]
theorem nI_k (i k : Nat) : nI i + nI k = nI (i + k) := nI_add i k
theorem law_0 {C : CC} (hC : Clo C) {K : KT} {d : Nat} (hd : 12 ≤ d) {n : Nat} (hn : n ≤ 384) {g : Nat → Int32} {X : XT} (hX : CloS (some (n, g)) C K d bl_L X) {i : Nat} (hi : i + 6 ≤ n) {σ M : MT} (hA : AC σ M) (hM : AM σ M) (hW : WF σ) (hT : WT σ) (hN : ∀ (σ1 M1 : MT), AC σ1 M1 → AM σ1 M1 → WF σ1 → WT σ1 → X 1354 (LL i) [] M1) : X 200 (LL i) [] M := by
  refine b_L_200 hX ?_
  conv => whnf
  refine ⟨i + 1, nI_k i 1, by omega, ?_⟩
  conv => whnf
  refine ⟨i + 2, nI_k i 2, by omega, ?_⟩
  conv => whnf
  refine ⟨i + 3, nI_k i 3, by omega, ?_⟩
  conv => whnf
  refine ⟨by omega, cl_row hC (by omega) hA (fun M1 hA1 f1 => ?_)⟩
  conv => whnf
  refine ⟨i + 1, nI_k i 1, by omega, ?_⟩
  conv => whnf
  refine ⟨i + 2, nI_k i 2, by omega, ?_⟩
  conv => whnf
  refine ⟨i + 3, nI_k i 3, by omega, ?_⟩
  conv => whnf
  refine ⟨by omega, mo_row hC (by omega) (hM.fr f1) (fun M2 hM2 f2 => ?_)⟩
  conv => whnf
  exact ⟨fun _ => hN _ _ (hA1.fr f2) hM2 (wf_row hW) (wt_row hT), fun h => absurd rfl h⟩
theorem law_1 {C : CC} (hC : Clo C) {K : KT} {d : Nat} (hd : 12 ≤ d) {n : Nat} (hn : n ≤ 384) {g : Nat → Int32} {X : XT} (hX : CloS (some (n, g)) C K d bl_L X) {i : Nat} (hi : i + 6 ≤ n) {σ M : MT} (hA : AC σ M) (hM : AM σ M) (hW : WF σ) (hT : WT σ) (hN : ∀ (σ1 M1 : MT), AC σ1 M1 → AM σ1 M1 → WF σ1 → WT σ1 → X 1354 (LL i) [] M1) : X 243 (LL i) [] M := by
  refine b_L_243 hX ?_
  conv => whnf
  refine ⟨i + 1, nI_k i 1, by omega, ?_⟩
  conv => whnf
  refine ⟨i + 2, nI_k i 2, by omega, ?_⟩
  conv => whnf
  refine ⟨i + 3, nI_k i 3, by omega, ?_⟩
  conv => whnf
  refine ⟨by omega, cl_set hC (by omega) hA hW (fun M1 hA1 f1 => ?_)⟩
  conv => whnf
  refine ⟨i + 1, nI_k i 1, by omega, ?_⟩
  conv => whnf
  refine ⟨i + 2, nI_k i 2, by omega, ?_⟩
  conv => whnf
  refine ⟨i + 3, nI_k i 3, by omega, ?_⟩
  conv => whnf
  refine ⟨by omega, mo_set hC (by omega) (hM.fr f1) hW (fun M2 hM2 f2 => ?_)⟩
  conv => whnf
  exact ⟨fun _ => hN _ _ (hA1.fr f2) hM2 (wf_set hW) (wt_set hT), fun h => absurd rfl h⟩
theorem law_2 {C : CC} (hC : Clo C) {K : KT} {d : Nat} (hd : 12 ≤ d) {n : Nat} (hn : n ≤ 384) {g : Nat → Int32} {X : XT} (hX : CloS (some (n, g)) C K d bl_L X) {i : Nat} (hi : i + 6 ≤ n) {σ M : MT} (hA : AC σ M) (hM : AM σ M) (hW : WF σ) (hT : WT σ) (hN : ∀ (σ1 M1 : MT), AC σ1 M1 → AM σ1 M1 → WF σ1 → WT σ1 → X 1354 (LL i) [] M1) : X 286 (LL i) [] M := by
  refine b_L_286 hX ?_
  conv => whnf
  refine ⟨i + 1, nI_k i 1, by omega, ?_⟩
  conv => whnf
  refine ⟨i + 2, nI_k i 2, by omega, ?_⟩
  conv => whnf
  refine ⟨i + 3, nI_k i 3, by omega, ?_⟩
  conv => whnf
  refine ⟨i + 4, nI_k i 4, by omega, ?_⟩
  conv => whnf
  refine ⟨i + 5, nI_k i 5, by omega, ?_⟩
  conv => whnf
  refine ⟨by omega, cl_copy hC (by omega) hA hW (fun M1 hA1 f1 => ?_)⟩
  conv => whnf
  refine ⟨i + 1, nI_k i 1, by omega, ?_⟩
  conv => whnf
  refine ⟨i + 2, nI_k i 2, by omega, ?_⟩
  conv => whnf
  refine ⟨i + 3, nI_k i 3, by omega, ?_⟩
  conv => whnf
  refine ⟨i + 4, nI_k i 4, by omega, ?_⟩
  conv => whnf
  refine ⟨i + 5, nI_k i 5, by omega, ?_⟩
  conv => whnf
  refine ⟨by omega, mo_copy hC (by omega) (hM.fr f1) hW (fun M2 hM2 f2 => ?_)⟩
  conv => whnf
  exact ⟨fun _ => hN _ _ (hA1.fr f2) hM2 (wf_copy hW) (wt_copy hT), fun h => absurd rfl h⟩
theorem law_3 {C : CC} (hC : Clo C) {K : KT} {d : Nat} (hd : 12 ≤ d) {n : Nat} (hn : n ≤ 384) {g : Nat → Int32} {X : XT} (hX : CloS (some (n, g)) C K d bl_L X) {i : Nat} (hi : i + 6 ≤ n) {σ M : MT} (hA : AC σ M) (hM : AM σ M) (hW : WF σ) (hT : WT σ) (hN : ∀ (σ1 M1 : MT), AC σ1 M1 → AM σ1 M1 → WF σ1 → WT σ1 → X 1354 (LL i) [] M1) : X 349 (LL i) [] M := by
  refine b_L_349 hX ?_
  conv => whnf
  refine ⟨i + 1, nI_k i 1, by omega, ?_⟩
  conv => whnf
  refine ⟨by omega, cl_drop hC (by omega) hA (fun M1 hA1 f1 => ?_)⟩
  conv => whnf
  refine ⟨i + 1, nI_k i 1, by omega, ?_⟩
  conv => whnf
  refine ⟨by omega, mo_drop hC (by omega) (hM.fr f1) hW (fun M2 hM2 f2 => ?_)⟩
  conv => whnf
  exact ⟨fun _ => hN _ _ (hA1.fr f2) hM2 (wf_drop hW) (wt_drop hT), fun h => absurd rfl h⟩
theorem law_4 {C : CC} (hC : Clo C) {K : KT} {d : Nat} (hd : 12 ≤ d) {n : Nat} (hn : n ≤ 384) {g : Nat → Int32} {X : XT} (hX : CloS (some (n, g)) C K d bl_L X) {i : Nat} (hi : i + 6 ≤ n) {σ M : MT} (hA : AC σ M) (hM : AM σ M) (hW : WF σ) (hT : WT σ) (hN : ∀ (σ1 M1 : MT), AC σ1 M1 → AM σ1 M1 → WF σ1 → WT σ1 → X 1354 (LL i) [] M1) : X 372 (LL i) [] M := by
  refine b_L_372 hX ?_
  conv => whnf
  refine ⟨i + 1, nI_k i 1, by omega, ?_⟩
  conv => whnf
  refine ⟨by omega, cl_feed hC (by omega) hA hW (fun M1 hA1 f1 => ?_)⟩
  conv => whnf
  refine ⟨i + 1, nI_k i 1, by omega, ?_⟩
  conv => whnf
  refine ⟨by omega, mo_feed hC (by omega) (hM.fr f1) hW (fun M2 hM2 f2 => ?_)⟩
  conv => whnf
  exact ⟨fun _ => hN _ _ (hA1.fr f2) hM2 (wf_feed hW) (wt_feed hT), fun h => absurd rfl h⟩
theorem law_5 {C : CC} (hC : Clo C) {K : KT} {d : Nat} (hd : 12 ≤ d) {n : Nat} (hn : n ≤ 384) {g : Nat → Int32} {X : XT} (hX : CloS (some (n, g)) C K d bl_L X) {i : Nat} (hi : i + 6 ≤ n) {σ M : MT} (hA : AC σ M) (hM : AM σ M) (hW : WF σ) (hT : WT σ) (hN : ∀ (σ1 M1 : MT), AC σ1 M1 → AM σ1 M1 → WF σ1 → WT σ1 → X 1354 (LL i) [] M1) : X 395 (LL i) [] M := by
  refine b_L_395 hX ?_
  conv => whnf
  refine ⟨by omega, cl_band hC (by omega) hA hW (fun M1 hA1 f1 => ?_)⟩
  conv => whnf
  refine ⟨by omega, mo_band hC (by omega) (hM.fr f1) hW hT (fun M2 hM2 f2 => ?_)⟩
  conv => whnf
  exact ⟨fun _ => hN _ _ (hA1.fr f2) hM2 (wf_band hW) (wt_band hT), fun h => absurd rfl h⟩
theorem law_6 {C : CC} (hC : Clo C) {K : KT} {d : Nat} (hd : 12 ≤ d) {n : Nat} (hn : n ≤ 384) {g : Nat → Int32} {X : XT} (hX : CloS (some (n, g)) C K d bl_L X) {i : Nat} (hi : i + 6 ≤ n) {σ M : MT} (hA : AC σ M) (hM : AM σ M) (hW : WF σ) (hT : WT σ) (hN : ∀ (σ1 M1 : MT), AC σ1 M1 → AM σ1 M1 → WF σ1 → WT σ1 → X 1354 (LL i) [] M1) : X 408 (LL i) [] M := by
  refine b_L_408 hX ?_
  conv => whnf
  refine ⟨by omega, cl_fault hC hA ?_⟩
  conv => whnf
  refine ⟨by omega, mo_fault hC hM ?_⟩
  conv => whnf
  exact ⟨fun _ => hN _ _ hA hM hW hT, fun h => absurd rfl h⟩
theorem law_7 {C : CC} (hC : Clo C) {K : KT} {d : Nat} (hd : 12 ≤ d) {n : Nat} (hn : n ≤ 384) {g : Nat → Int32} {X : XT} (hX : CloS (some (n, g)) C K d bl_L X) {i : Nat} (hi : i + 6 ≤ n) {σ M : MT} (hA : AC σ M) (hM : AM σ M) (hW : WF σ) (hT : WT σ) (hN : ∀ (σ1 M1 : MT), AC σ1 M1 → AM σ1 M1 → WF σ1 → WT σ1 → X 1354 (LL i) [] M1) : X 421 (LL i) [] M := by
  refine b_L_421 hX ?_
  conv => whnf
  refine ⟨by omega, cl_undo hC (by omega) hA hW (fun M1 hA1 f1 => ?_)⟩
  conv => whnf
  refine ⟨by omega, mo_undo hC (by omega) (hM.fr f1) hW (fun M2 hM2 f2 => ?_)⟩
  conv => whnf
  exact ⟨fun _ => hN _ _ (hA1.fr f2) hM2 (wf_undo hW) (wt_undo hT), fun h => absurd rfl h⟩
theorem law_8 {C : CC} (hC : Clo C) {K : KT} {d : Nat} (hd : 12 ≤ d) {n : Nat} (hn : n ≤ 384) {g : Nat → Int32} {X : XT} (hX : CloS (some (n, g)) C K d bl_L X) {i : Nat} (hi : i + 6 ≤ n) {σ M : MT} (hA : AC σ M) (hM : AM σ M) (hW : WF σ) (hT : WT σ) (hN : ∀ (σ1 M1 : MT), AC σ1 M1 → AM σ1 M1 → WF σ1 → WT σ1 → X 1354 (LL i) [] M1) : X 434 (LL i) [] M := by
  refine b_L_434 hX ?_
  conv => whnf
  refine ⟨i + 1, nI_k i 1, by omega, ?_⟩
  conv => whnf
  refine ⟨by omega, cl_bars hC (by omega) hA hW (fun M1 hA1 f1 => ?_)⟩
  conv => whnf
  refine ⟨i + 1, nI_k i 1, by omega, ?_⟩
  conv => whnf
  refine ⟨by omega, mo_bars hC (by omega) (hM.fr f1) hW (fun M2 hM2 f2 => ?_)⟩
  conv => whnf
  exact ⟨fun _ => hN _ _ (hA1.fr f2) hM2 (wf_bars hW) (wt_bars hT), fun h => absurd rfl h⟩
theorem law_9 {C : CC} (hC : Clo C) {K : KT} {d : Nat} (hd : 12 ≤ d) {n : Nat} (hn : n ≤ 384) {g : Nat → Int32} {X : XT} (hX : CloS (some (n, g)) C K d bl_L X) {i : Nat} (hi : i + 6 ≤ n) {σ M : MT} (hA : AC σ M) (hM : AM σ M) (hW : WF σ) (hT : WT σ) (hN : ∀ (σ1 M1 : MT), AC σ1 M1 → AM σ1 M1 → WF σ1 → WT σ1 → X 1354 (LL i) [] M1) : X 457 (LL i) [] M := by
  refine b_L_457 hX ?_
  conv => whnf
  refine ⟨i + 1, nI_k i 1, by omega, ?_⟩
  conv => whnf
  refine ⟨i + 2, nI_k i 2, by omega, ?_⟩
  conv => whnf
  refine ⟨by omega, cl_pace hC (by omega) hA hW (fun M1 hA1 f1 => ?_)⟩
  conv => whnf
  refine ⟨i + 1, nI_k i 1, by omega, ?_⟩
  conv => whnf
  refine ⟨i + 2, nI_k i 2, by omega, ?_⟩
  conv => whnf
  refine ⟨by omega, mo_pace hC (by omega) (hM.fr f1) hW (fun M2 hM2 f2 => ?_)⟩
  conv => whnf
  exact ⟨fun _ => hN _ _ (hA1.fr f2) hM2 (wf_pace hW) (wt_pace hT), fun h => absurd rfl h⟩
theorem law_10 {C : CC} (hC : Clo C) {K : KT} {d : Nat} (hd : 12 ≤ d) {n : Nat} (hn : n ≤ 384) {g : Nat → Int32} {X : XT} (hX : CloS (some (n, g)) C K d bl_L X) {i : Nat} (hi : i + 6 ≤ n) {σ M : MT} (hA : AC σ M) (hM : AM σ M) (hW : WF σ) (hT : WT σ) (hN : ∀ (σ1 M1 : MT), AC σ1 M1 → AM σ1 M1 → WF σ1 → WT σ1 → X 1354 (LL i) [] M1) : X 490 (LL i) [] M := by
  refine b_L_490 hX ?_
  conv => whnf
  refine ⟨i + 1, nI_k i 1, by omega, ?_⟩
  conv => whnf
  refine ⟨i + 2, nI_k i 2, by omega, ?_⟩
  conv => whnf
  refine ⟨i + 3, nI_k i 3, by omega, ?_⟩
  conv => whnf
  refine ⟨by omega, cl_hears hC (by omega) hA hW (fun M1 hA1 f1 => ?_)⟩
  conv => whnf
  refine ⟨i + 1, nI_k i 1, by omega, ?_⟩
  conv => whnf
  refine ⟨i + 2, nI_k i 2, by omega, ?_⟩
  conv => whnf
  refine ⟨i + 3, nI_k i 3, by omega, ?_⟩
  conv => whnf
  refine ⟨by omega, mo_hears hC (by omega) (hM.fr f1) hW (fun M2 hM2 f2 => ?_)⟩
  conv => whnf
  exact ⟨fun _ => hN _ _ (hA1.fr f2) hM2 (wf_hears hW) (wt_hears hT), fun h => absurd rfl h⟩
theorem law_11 {C : CC} (hC : Clo C) {K : KT} {d : Nat} (hd : 12 ≤ d) {n : Nat} (hn : n ≤ 384) {g : Nat → Int32} {X : XT} (hX : CloS (some (n, g)) C K d bl_L X) {i : Nat} (hi : i + 6 ≤ n) {σ M : MT} (hA : AC σ M) (hM : AM σ M) (hW : WF σ) (hT : WT σ) (hN : ∀ (σ1 M1 : MT), AC σ1 M1 → AM σ1 M1 → WF σ1 → WT σ1 → X 1354 (LL i) [] M1) : X 533 (LL i) [] M := by
  refine b_L_533 hX ?_
  conv => whnf
  refine ⟨i + 1, nI_k i 1, by omega, ?_⟩
  conv => whnf
  refine ⟨by omega, cl_click hC (by omega) hA hW (fun M1 hA1 f1 => ?_)⟩
  conv => whnf
  refine ⟨i + 1, nI_k i 1, by omega, ?_⟩
  conv => whnf
  refine ⟨by omega, mo_click hC (by omega) (hM.fr f1) hW (fun M2 hM2 f2 => ?_)⟩
  conv => whnf
  exact ⟨fun _ => hN _ _ (hA1.fr f2) hM2 (wf_click hW) (wt_click hT), fun h => absurd rfl h⟩
theorem law_12 {C : CC} (hC : Clo C) {K : KT} {d : Nat} (hd : 12 ≤ d) {n : Nat} (hn : n ≤ 384) {g : Nat → Int32} {X : XT} (hX : CloS (some (n, g)) C K d bl_L X) {i : Nat} (hi : i + 6 ≤ n) {σ M : MT} (hA : AC σ M) (hM : AM σ M) (hW : WF σ) (hT : WT σ) (hN : ∀ (σ1 M1 : MT), AC σ1 M1 → AM σ1 M1 → WF σ1 → WT σ1 → X 1354 (LL i) [] M1) : X 556 (LL i) [] M := by
  refine b_L_556 hX ?_
  conv => whnf
  refine ⟨i + 1, nI_k i 1, by omega, ?_⟩
  conv => whnf
  refine ⟨by omega, cl_claps hC (by omega) hA hW (fun M1 hA1 f1 => ?_)⟩
  conv => whnf
  refine ⟨i + 1, nI_k i 1, by omega, ?_⟩
  conv => whnf
  refine ⟨by omega, mo_claps hC (by omega) (hM.fr f1) hW (fun M2 hM2 f2 => ?_)⟩
  conv => whnf
  exact ⟨fun _ => hN _ _ (hA1.fr f2) hM2 (wf_claps hW) (wt_claps hT), fun h => absurd rfl h⟩
theorem law_13 {C : CC} (hC : Clo C) {K : KT} {d : Nat} (hd : 12 ≤ d) {n : Nat} (hn : n ≤ 384) {g : Nat → Int32} {X : XT} (hX : CloS (some (n, g)) C K d bl_L X) {i : Nat} (hi : i + 6 ≤ n) {σ M : MT} (hA : AC σ M) (hM : AM σ M) (hW : WF σ) (hT : WT σ) (hN : ∀ (σ1 M1 : MT), AC σ1 M1 → AM σ1 M1 → WF σ1 → WT σ1 → X 1354 (LL i) [] M1) : X 579 (LL i) [] M := by
  refine b_L_579 hX ?_
  conv => whnf
  refine ⟨i + 1, nI_k i 1, by omega, ?_⟩
  conv => whnf
  refine ⟨i + 2, nI_k i 2, by omega, ?_⟩
  conv => whnf
  refine ⟨by omega, cl_player hC (by omega) hA hW ?_⟩
  conv => whnf
  refine ⟨i + 1, nI_k i 1, by omega, ?_⟩
  conv => whnf
  refine ⟨i + 2, nI_k i 2, by omega, ?_⟩
  conv => whnf
  refine ⟨by omega, mo_player hC (by omega) hM hW ?_⟩
  conv => whnf
  exact ⟨fun _ => hN _ _ hA hM hW hT, fun h => absurd rfl h⟩
theorem law_14 {C : CC} (hC : Clo C) {K : KT} {d : Nat} (hd : 12 ≤ d) {n : Nat} (hn : n ≤ 384) {g : Nat → Int32} {X : XT} (hX : CloS (some (n, g)) C K d bl_L X) {i : Nat} (hi : i + 6 ≤ n) {σ M : MT} (hA : AC σ M) (hM : AM σ M) (hW : WF σ) (hT : WT σ) (hN : ∀ (σ1 M1 : MT), AC σ1 M1 → AM σ1 M1 → WF σ1 → WT σ1 → X 1354 (LL i) [] M1) : X 612 (LL i) [] M := by
  refine b_L_612 hX ?_
  conv => whnf
  refine ⟨i + 1, nI_k i 1, by omega, ?_⟩
  conv => whnf
  refine ⟨i + 2, nI_k i 2, by omega, ?_⟩
  conv => whnf
  refine ⟨by omega, cl_ear hC (by omega) hA hW ?_⟩
  conv => whnf
  refine ⟨i + 1, nI_k i 1, by omega, ?_⟩
  conv => whnf
  refine ⟨i + 2, nI_k i 2, by omega, ?_⟩
  conv => whnf
  refine ⟨by omega, mo_ear hC (by omega) hM hW ?_⟩
  conv => whnf
  exact ⟨fun _ => hN _ _ hA hM hW hT, fun h => absurd rfl h⟩
theorem law_15 {C : CC} (hC : Clo C) {K : KT} {d : Nat} (hd : 12 ≤ d) {n : Nat} (hn : n ≤ 384) {g : Nat → Int32} {X : XT} (hX : CloS (some (n, g)) C K d bl_L X) {i : Nat} (hi : i + 6 ≤ n) {σ M : MT} (hA : AC σ M) (hM : AM σ M) (hW : WF σ) (hT : WT σ) (hN : ∀ (σ1 M1 : MT), AC σ1 M1 → AM σ1 M1 → WF σ1 → WT σ1 → X 1354 (LL i) [] M1) : X 645 (LL i) [] M := by
  refine b_L_645 hX ?_
  conv => whnf
  refine ⟨i + 1, nI_k i 1, by omega, ?_⟩
  conv => whnf
  refine ⟨by omega, cl_bar hC (by omega) hA hW ?_⟩
  conv => whnf
  refine ⟨i + 1, nI_k i 1, by omega, ?_⟩
  conv => whnf
  refine ⟨by omega, mo_bar hC (by omega) hM hW ?_⟩
  conv => whnf
  exact ⟨fun _ => hN _ _ hA hM hW hT, fun h => absurd rfl h⟩
theorem law_16 {C : CC} (hC : Clo C) {K : KT} {d : Nat} (hd : 12 ≤ d) {n : Nat} (hn : n ≤ 384) {g : Nat → Int32} {X : XT} (hX : CloS (some (n, g)) C K d bl_L X) {i : Nat} (hi : i + 6 ≤ n) {σ M : MT} (hA : AC σ M) (hM : AM σ M) (hW : WF σ) (hT : WT σ) (hN : ∀ (σ1 M1 : MT), AC σ1 M1 → AM σ1 M1 → WF σ1 → WT σ1 → X 1354 (LL i) [] M1) : X 668 (LL i) [] M := by
  refine b_L_668 hX ?_
  conv => whnf
  refine ⟨i + 1, nI_k i 1, by omega, ?_⟩
  conv => whnf
  refine ⟨i + 2, nI_k i 2, by omega, ?_⟩
  conv => whnf
  refine ⟨by omega, cl_ahead hC (by omega) hA hW (fun M1 hA1 f1 => ?_)⟩
  conv => whnf
  refine ⟨i + 1, nI_k i 1, by omega, ?_⟩
  conv => whnf
  refine ⟨i + 2, nI_k i 2, by omega, ?_⟩
  conv => whnf
  refine ⟨by omega, mo_ahead hC (by omega) (hM.fr f1) hW (fun M2 hM2 f2 => ?_)⟩
  conv => whnf
  exact ⟨fun _ => hN _ _ (hA1.fr f2) hM2 hW hT, fun h => absurd rfl h⟩
theorem law_17 {C : CC} (hC : Clo C) {K : KT} {d : Nat} (hd : 12 ≤ d) {n : Nat} (hn : n ≤ 384) {g : Nat → Int32} {X : XT} (hX : CloS (some (n, g)) C K d bl_L X) {i : Nat} (hi : i + 6 ≤ n) {σ M : MT} (hA : AC σ M) (hM : AM σ M) (hW : WF σ) (hT : WT σ) (hN : ∀ (σ1 M1 : MT), AC σ1 M1 → AM σ1 M1 → WF σ1 → WT σ1 → X 1354 (LL i) [] M1) : X 701 (LL i) [] M := by
  refine b_L_701 hX ?_
  conv => whnf
  refine ⟨by omega, cl_drift hC (by omega) hA hW (fun M1 hA1 f1 => ?_)⟩
  conv => whnf
  refine ⟨by omega, mo_drift hC (by omega) (hM.fr f1) hW (fun M2 hM2 f2 => ?_)⟩
  conv => whnf
  exact ⟨fun _ => hN _ _ (hA1.fr f2) hM2 hW hT, fun h => absurd rfl h⟩
theorem law_18 {C : CC} (hC : Clo C) {K : KT} {d : Nat} (hd : 12 ≤ d) {n : Nat} (hn : n ≤ 384) {g : Nat → Int32} {X : XT} (hX : CloS (some (n, g)) C K d bl_L X) {i : Nat} (hi : i + 6 ≤ n) {σ M : MT} (hA : AC σ M) (hM : AM σ M) (hW : WF σ) (hT : WT σ) (hN : ∀ (σ1 M1 : MT), AC σ1 M1 → AM σ1 M1 → WF σ1 → WT σ1 → X 1354 (LL i) [] M1) : X 714 (LL i) [] M := by
  refine b_L_714 hX ?_
  conv => whnf
  refine ⟨i + 1, nI_k i 1, by omega, ?_⟩
  conv => whnf
  refine ⟨by omega, cl_round hC (by omega) hA hW (fun M1 hA1 f1 => ?_)⟩
  conv => whnf
  refine ⟨i + 1, nI_k i 1, by omega, ?_⟩
  conv => whnf
  refine ⟨by omega, mo_round hC (by omega) (hM.fr f1) hW (fun M2 hM2 f2 => ?_)⟩
  conv => whnf
  exact ⟨fun _ => hN _ _ (hA1.fr f2) hM2 hW hT, fun h => absurd rfl h⟩
theorem law_19 {C : CC} (hC : Clo C) {K : KT} {d : Nat} (hd : 12 ≤ d) {n : Nat} (hn : n ≤ 384) {g : Nat → Int32} {X : XT} (hX : CloS (some (n, g)) C K d bl_L X) {i : Nat} (hi : i + 6 ≤ n) {σ M : MT} (hA : AC σ M) (hM : AM σ M) (hW : WF σ) (hT : WT σ) (hN : ∀ (σ1 M1 : MT), AC σ1 M1 → AM σ1 M1 → WF σ1 → WT σ1 → X 1354 (LL i) [] M1) : X 737 (LL i) [] M := by
  refine b_L_737 hX ?_
  conv => whnf
  refine ⟨i + 1, nI_k i 1, by omega, ?_⟩
  conv => whnf
  refine ⟨i + 2, nI_k i 2, by omega, ?_⟩
  conv => whnf
  refine ⟨by omega, cl_noticed hC (by omega) hA hW (fun M1 hA1 f1 => ?_)⟩
  conv => whnf
  refine ⟨i + 1, nI_k i 1, by omega, ?_⟩
  conv => whnf
  refine ⟨i + 2, nI_k i 2, by omega, ?_⟩
  conv => whnf
  refine ⟨by omega, mo_noticed hC (by omega) (hM.fr f1) hW (fun M2 hM2 f2 => ?_)⟩
  conv => whnf
  exact ⟨fun _ => hN _ _ (hA1.fr f2) hM2 hW hT, fun h => absurd rfl h⟩
theorem law_20 {C : CC} (hC : Clo C) {K : KT} {d : Nat} (hd : 12 ≤ d) {n : Nat} (hn : n ≤ 384) {g : Nat → Int32} {X : XT} (hX : CloS (some (n, g)) C K d bl_L X) {i : Nat} (hi : i + 6 ≤ n) {σ M : MT} (hA : AC σ M) (hM : AM σ M) (hW : WF σ) (hT : WT σ) (hN : ∀ (σ1 M1 : MT), AC σ1 M1 → AM σ1 M1 → WF σ1 → WT σ1 → X 1354 (LL i) [] M1) : X 770 (LL i) [] M := by
  refine b_L_770 hX ?_
  conv => whnf
  refine ⟨i + 1, nI_k i 1, by omega, ?_⟩
  conv => whnf
  refine ⟨i + 2, nI_k i 2, by omega, ?_⟩
  conv => whnf
  refine ⟨i + 3, nI_k i 3, by omega, ?_⟩
  conv => whnf
  refine ⟨i + 4, nI_k i 4, by omega, ?_⟩
  conv => whnf
  refine ⟨i + 5, nI_k i 5, by omega, ?_⟩
  conv => whnf
  refine ⟨by omega, cl_dancers hC (by omega) hA hW (fun M1 hA1 f1 => ?_)⟩
  conv => whnf
  refine ⟨i + 1, nI_k i 1, by omega, ?_⟩
  conv => whnf
  refine ⟨i + 2, nI_k i 2, by omega, ?_⟩
  conv => whnf
  refine ⟨i + 3, nI_k i 3, by omega, ?_⟩
  conv => whnf
  refine ⟨i + 4, nI_k i 4, by omega, ?_⟩
  conv => whnf
  refine ⟨i + 5, nI_k i 5, by omega, ?_⟩
  conv => whnf
  refine ⟨by omega, mo_dancers hC (by omega) (hM.fr f1) hW (fun M2 hM2 f2 => ?_)⟩
  conv => whnf
  exact ⟨fun _ => hN _ _ (hA1.fr f2) hM2 (wf_dancers hW) (wt_dancers hT), fun h => absurd rfl h⟩
theorem law_21 {C : CC} (hC : Clo C) {K : KT} {d : Nat} (hd : 12 ≤ d) {n : Nat} (hn : n ≤ 384) {g : Nat → Int32} {X : XT} (hX : CloS (some (n, g)) C K d bl_L X) {i : Nat} (hi : i + 6 ≤ n) {σ M : MT} (hA : AC σ M) (hM : AM σ M) (hW : WF σ) (hT : WT σ) (hN : ∀ (σ1 M1 : MT), AC σ1 M1 → AM σ1 M1 → WF σ1 → WT σ1 → X 1354 (LL i) [] M1) : X 833 (LL i) [] M := by
  refine b_L_833 hX ?_
  conv => whnf
  refine ⟨i + 1, nI_k i 1, by omega, ?_⟩
  conv => whnf
  refine ⟨i + 2, nI_k i 2, by omega, ?_⟩
  conv => whnf
  refine ⟨by omega, cl_countIn hC (by omega) hA hW (fun M1 hA1 f1 => ?_)⟩
  conv => whnf
  refine ⟨i + 1, nI_k i 1, by omega, ?_⟩
  conv => whnf
  refine ⟨i + 2, nI_k i 2, by omega, ?_⟩
  conv => whnf
  refine ⟨by omega, mo_countIn hC (by omega) (hM.fr f1) hW (fun M2 hM2 f2 => ?_)⟩
  conv => whnf
  exact ⟨fun _ => hN _ _ (hA1.fr f2) hM2 hW hT, fun h => absurd rfl h⟩
theorem law_22 {C : CC} (hC : Clo C) {K : KT} {d : Nat} (hd : 12 ≤ d) {n : Nat} (hn : n ≤ 384) {g : Nat → Int32} {X : XT} (hX : CloS (some (n, g)) C K d bl_L X) {i : Nat} (hi : i + 6 ≤ n) {σ M : MT} (hA : AC σ M) (hM : AM σ M) (hW : WF σ) (hT : WT σ) (hN : ∀ (σ1 M1 : MT), AC σ1 M1 → AM σ1 M1 → WF σ1 → WT σ1 → X 1354 (LL i) [] M1) : X 866 (LL i) [] M := by
  refine b_L_866 hX ?_
  conv => whnf
  refine ⟨i + 1, nI_k i 1, by omega, ?_⟩
  conv => whnf
  refine ⟨by omega, cl_deaf hC (by omega) hA hW (fun M1 hA1 f1 => ?_)⟩
  conv => whnf
  refine ⟨i + 1, nI_k i 1, by omega, ?_⟩
  conv => whnf
  refine ⟨by omega, mo_deaf hC (by omega) (hM.fr f1) hW (fun M2 hM2 f2 => ?_)⟩
  conv => whnf
  exact ⟨fun _ => hN _ _ (hA1.fr f2) hM2 hW hT, fun h => absurd rfl h⟩
theorem law_23 {C : CC} (hC : Clo C) {K : KT} {d : Nat} (hd : 12 ≤ d) {n : Nat} (hn : n ≤ 384) {g : Nat → Int32} {X : XT} (hX : CloS (some (n, g)) C K d bl_L X) {i : Nat} (hi : i + 6 ≤ n) {σ M : MT} (hA : AC σ M) (hM : AM σ M) (hW : WF σ) (hT : WT σ) (hN : ∀ (σ1 M1 : MT), AC σ1 M1 → AM σ1 M1 → WF σ1 → WT σ1 → X 1354 (LL i) [] M1) : X 889 (LL i) [] M := by
  refine b_L_889 hX ?_
  conv => whnf
  refine ⟨i + 1, nI_k i 1, by omega, ?_⟩
  conv => whnf
  refine ⟨by omega, cl_inEar hC (by omega) hA hW (fun M1 hA1 f1 => ?_)⟩
  conv => whnf
  refine ⟨i + 1, nI_k i 1, by omega, ?_⟩
  conv => whnf
  refine ⟨by omega, mo_inEar hC (by omega) (hM.fr f1) hW (fun M2 hM2 f2 => ?_)⟩
  conv => whnf
  exact ⟨fun _ => hN _ _ (hA1.fr f2) hM2 hW hT, fun h => absurd rfl h⟩
theorem law_24 {C : CC} (hC : Clo C) {K : KT} {d : Nat} (hd : 12 ≤ d) {n : Nat} (hn : n ≤ 384) {g : Nat → Int32} {X : XT} (hX : CloS (some (n, g)) C K d bl_L X) {i : Nat} (hi : i + 6 ≤ n) {σ M : MT} (hA : AC σ M) (hM : AM σ M) (hW : WF σ) (hT : WT σ) (hN : ∀ (σ1 M1 : MT), AC σ1 M1 → AM σ1 M1 → WF σ1 → WT σ1 → X 1354 (LL i) [] M1) : X 912 (LL i) [] M := by
  refine b_L_912 hX ?_
  conv => whnf
  refine ⟨i + 1, nI_k i 1, by omega, ?_⟩
  conv => whnf
  refine ⟨by omega, cl_blame hC (by omega) hA hW (fun M1 hA1 f1 => ?_)⟩
  conv => whnf
  refine ⟨i + 1, nI_k i 1, by omega, ?_⟩
  conv => whnf
  refine ⟨by omega, mo_blame hC (by omega) (hM.fr f1) hW (fun M2 hM2 f2 => ?_)⟩
  conv => whnf
  exact ⟨fun _ => hN _ _ (hA1.fr f2) hM2 hW hT, fun h => absurd rfl h⟩
theorem law_25 {C : CC} (hC : Clo C) {K : KT} {d : Nat} (hd : 12 ≤ d) {n : Nat} (hn : n ≤ 384) {g : Nat → Int32} {X : XT} (hX : CloS (some (n, g)) C K d bl_L X) {i : Nat} (hi : i + 6 ≤ n) {σ M : MT} (hA : AC σ M) (hM : AM σ M) (hW : WF σ) (hT : WT σ) (hN : ∀ (σ1 M1 : MT), AC σ1 M1 → AM σ1 M1 → WF σ1 → WT σ1 → X 1354 (LL i) [] M1) : X 935 (LL i) [] M := by
  refine b_L_935 hX ?_
  conv => whnf
  refine ⟨i + 1, nI_k i 1, by omega, ?_⟩
  conv => whnf
  refine ⟨i + 2, nI_k i 2, by omega, ?_⟩
  conv => whnf
  refine ⟨i + 3, nI_k i 3, by omega, ?_⟩
  conv => whnf
  refine ⟨i + 4, nI_k i 4, by omega, ?_⟩
  conv => whnf
  refine ⟨by omega, cl_back hC (by omega) hA hW (fun M1 hA1 f1 => ?_)⟩
  conv => whnf
  refine ⟨i + 1, nI_k i 1, by omega, ?_⟩
  conv => whnf
  refine ⟨i + 2, nI_k i 2, by omega, ?_⟩
  conv => whnf
  refine ⟨i + 3, nI_k i 3, by omega, ?_⟩
  conv => whnf
  refine ⟨i + 4, nI_k i 4, by omega, ?_⟩
  conv => whnf
  refine ⟨by omega, mo_back hC (by omega) (hM.fr f1) hW (fun M2 hM2 f2 => ?_)⟩
  conv => whnf
  exact ⟨fun _ => hN _ _ (hA1.fr f2) hM2 hW hT, fun h => absurd rfl h⟩
theorem law_26 {C : CC} (hC : Clo C) {K : KT} {d : Nat} (hd : 12 ≤ d) {n : Nat} (hn : n ≤ 384) {g : Nat → Int32} {X : XT} (hX : CloS (some (n, g)) C K d bl_L X) {i : Nat} (hi : i + 6 ≤ n) {σ M : MT} (hA : AC σ M) (hM : AM σ M) (hW : WF σ) (hT : WT σ) (hN : ∀ (σ1 M1 : MT), AC σ1 M1 → AM σ1 M1 → WF σ1 → WT σ1 → X 1354 (LL i) [] M1) : X 988 (LL i) [] M := by
  refine b_L_988 hX ?_
  conv => whnf
  refine ⟨i + 1, nI_k i 1, by omega, ?_⟩
  conv => whnf
  refine ⟨i + 2, nI_k i 2, by omega, ?_⟩
  conv => whnf
  refine ⟨i + 3, nI_k i 3, by omega, ?_⟩
  conv => whnf
  refine ⟨i + 4, nI_k i 4, by omega, ?_⟩
  conv => whnf
  refine ⟨by omega, cl_songs hC (by omega) hA hW (fun M1 hA1 f1 => ?_)⟩
  conv => whnf
  refine ⟨i + 1, nI_k i 1, by omega, ?_⟩
  conv => whnf
  refine ⟨i + 2, nI_k i 2, by omega, ?_⟩
  conv => whnf
  refine ⟨i + 3, nI_k i 3, by omega, ?_⟩
  conv => whnf
  refine ⟨i + 4, nI_k i 4, by omega, ?_⟩
  conv => whnf
  refine ⟨by omega, mo_songs hC (by omega) (hM.fr f1) hW (fun M2 hM2 f2 => ?_)⟩
  conv => whnf
  exact ⟨fun _ => hN _ _ (hA1.fr f2) hM2 (wf_songs hW) (wt_songs hT), fun h => absurd rfl h⟩
theorem law_27 {C : CC} (hC : Clo C) {K : KT} {d : Nat} (hd : 12 ≤ d) {n : Nat} (hn : n ≤ 384) {g : Nat → Int32} {X : XT} (hX : CloS (some (n, g)) C K d bl_L X) {i : Nat} (hi : i + 6 ≤ n) {σ M : MT} (hA : AC σ M) (hM : AM σ M) (hW : WF σ) (hT : WT σ) (hN : ∀ (σ1 M1 : MT), AC σ1 M1 → AM σ1 M1 → WF σ1 → WT σ1 → X 1354 (LL i) [] M1) : X 1041 (LL i) [] M := by
  refine b_L_1041 hX ?_
  conv => whnf
  refine ⟨i + 1, nI_k i 1, by omega, ?_⟩
  conv => whnf
  refine ⟨i + 2, nI_k i 2, by omega, ?_⟩
  conv => whnf
  refine ⟨by omega, cl_clapped hC (by omega) hA hW (fun M1 hA1 f1 => ?_)⟩
  conv => whnf
  refine ⟨i + 1, nI_k i 1, by omega, ?_⟩
  conv => whnf
  refine ⟨i + 2, nI_k i 2, by omega, ?_⟩
  conv => whnf
  refine ⟨by omega, mo_clapped hC (by omega) (hM.fr f1) hW (fun M2 hM2 f2 => ?_)⟩
  conv => whnf
  exact ⟨fun _ => hN _ _ (hA1.fr f2) hM2 hW hT, fun h => absurd rfl h⟩
theorem law_28 {C : CC} (hC : Clo C) {K : KT} {d : Nat} (hd : 12 ≤ d) {n : Nat} (hn : n ≤ 384) {g : Nat → Int32} {X : XT} (hX : CloS (some (n, g)) C K d bl_L X) {i : Nat} (hi : i + 6 ≤ n) {σ M : MT} (hA : AC σ M) (hM : AM σ M) (hW : WF σ) (hT : WT σ) (hN : ∀ (σ1 M1 : MT), AC σ1 M1 → AM σ1 M1 → WF σ1 → WT σ1 → X 1354 (LL i) [] M1) : X 1074 (LL i) [] M := by
  refine b_L_1074 hX ?_
  conv => whnf
  refine ⟨i + 1, nI_k i 1, by omega, ?_⟩
  conv => whnf
  refine ⟨i + 2, nI_k i 2, by omega, ?_⟩
  conv => whnf
  refine ⟨i + 3, nI_k i 3, by omega, ?_⟩
  conv => whnf
  refine ⟨by omega, cl_whoPushed hC (by omega) hA hW (fun M1 hA1 f1 => ?_)⟩
  conv => whnf
  refine ⟨i + 1, nI_k i 1, by omega, ?_⟩
  conv => whnf
  refine ⟨i + 2, nI_k i 2, by omega, ?_⟩
  conv => whnf
  refine ⟨i + 3, nI_k i 3, by omega, ?_⟩
  conv => whnf
  refine ⟨by omega, mo_whoPushed hC (by omega) (hM.fr f1) hW (fun M2 hM2 f2 => ?_)⟩
  conv => whnf
  exact ⟨fun _ => hN _ _ (hA1.fr f2) hM2 (wf_who hW) (wt_who hT), fun h => absurd rfl h⟩
theorem law_29 {C : CC} (hC : Clo C) {K : KT} {d : Nat} (hd : 12 ≤ d) {n : Nat} (hn : n ≤ 384) {g : Nat → Int32} {X : XT} (hX : CloS (some (n, g)) C K d bl_L X) {i : Nat} (hi : i + 6 ≤ n) {σ M : MT} (hA : AC σ M) (hM : AM σ M) (hW : WF σ) (hT : WT σ) (hN : ∀ (σ1 M1 : MT), AC σ1 M1 → AM σ1 M1 → WF σ1 → WT σ1 → X 1354 (LL i) [] M1) : X 1117 (LL i) [] M := by
  refine b_L_1117 hX ?_
  conv => whnf
  refine ⟨i + 1, nI_k i 1, by omega, ?_⟩
  conv => whnf
  refine ⟨i + 2, nI_k i 2, by omega, ?_⟩
  conv => whnf
  refine ⟨i + 3, nI_k i 3, by omega, ?_⟩
  conv => whnf
  refine ⟨by omega, cl_night hC (by omega) hA hW (fun M1 hA1 f1 => ?_)⟩
  conv => whnf
  refine ⟨i + 1, nI_k i 1, by omega, ?_⟩
  conv => whnf
  refine ⟨i + 2, nI_k i 2, by omega, ?_⟩
  conv => whnf
  refine ⟨i + 3, nI_k i 3, by omega, ?_⟩
  conv => whnf
  refine ⟨by omega, mo_night hC (by omega) (hM.fr f1) hW (fun M2 hM2 f2 => ?_)⟩
  conv => whnf
  exact ⟨fun _ => hN _ _ (hA1.fr f2) hM2 hW hT, fun h => absurd rfl h⟩
theorem law_30 {C : CC} (hC : Clo C) {K : KT} {d : Nat} (hd : 12 ≤ d) {n : Nat} (hn : n ≤ 384) {g : Nat → Int32} {X : XT} (hX : CloS (some (n, g)) C K d bl_L X) {i : Nat} (hi : i + 6 ≤ n) {σ M : MT} (hA : AC σ M) (hM : AM σ M) (hW : WF σ) (hT : WT σ) (hN : ∀ (σ1 M1 : MT), AC σ1 M1 → AM σ1 M1 → WF σ1 → WT σ1 → X 1354 (LL i) [] M1) : X 1160 (LL i) [] M := by
  refine b_L_1160 hX ?_
  conv => whnf
  refine ⟨i + 1, nI_k i 1, by omega, ?_⟩
  conv => whnf
  refine ⟨by omega, cl_image hC (by omega) hA hW (fun M1 hA1 f1 => ?_)⟩
  conv => whnf
  refine ⟨i + 1, nI_k i 1, by omega, ?_⟩
  conv => whnf
  refine ⟨by omega, mo_image hC (by omega) (hM.fr f1) hW (fun M2 hM2 f2 => ?_)⟩
  conv => whnf
  exact ⟨fun _ => hN _ _ (hA1.fr f2) hM2 (wf_image hW) (wt_image hT), fun h => absurd rfl h⟩
theorem law_31 {C : CC} (hC : Clo C) {K : KT} {d : Nat} (hd : 12 ≤ d) {n : Nat} (hn : n ≤ 384) {g : Nat → Int32} {X : XT} (hX : CloS (some (n, g)) C K d bl_L X) {i : Nat} (hi : i + 6 ≤ n) {σ M : MT} (hA : AC σ M) (hM : AM σ M) (hW : WF σ) (hT : WT σ) (hN : ∀ (σ1 M1 : MT), AC σ1 M1 → AM σ1 M1 → WF σ1 → WT σ1 → X 1354 (LL i) [] M1) : X 1183 (LL i) [] M := by
  refine b_L_1183 hX ?_
  conv => whnf
  refine ⟨i + 1, nI_k i 1, by omega, ?_⟩
  conv => whnf
  refine ⟨by omega, cl_restore hC (by omega) hA hW (fun M1 hA1 f1 => ?_)⟩
  conv => whnf
  refine ⟨i + 1, nI_k i 1, by omega, ?_⟩
  conv => whnf
  refine ⟨by omega, mo_restore hC (by omega) (hM.fr f1) hW (fun M2 hM2 f2 => ?_)⟩
  conv => whnf
  exact ⟨fun _ => hN _ _ (hA1.fr f2) hM2 (wf_restore hW) (wt_restore hT), fun h => absurd rfl h⟩
theorem law_32 {C : CC} (hC : Clo C) {K : KT} {d : Nat} (hd : 12 ≤ d) {n : Nat} (hn : n ≤ 384) {g : Nat → Int32} {X : XT} (hX : CloS (some (n, g)) C K d bl_L X) {i : Nat} (hi : i + 6 ≤ n) {σ M : MT} (hA : AC σ M) (hM : AM σ M) (hW : WF σ) (hT : WT σ) (hN : ∀ (σ1 M1 : MT), AC σ1 M1 → AM σ1 M1 → WF σ1 → WT σ1 → X 1354 (LL i) [] M1) : X 1206 (LL i) [] M := by
  refine b_L_1206 hX ?_
  conv => whnf
  refine ⟨i + 1, nI_k i 1, by omega, ?_⟩
  conv => whnf
  refine ⟨by omega, cl_kind hC (by omega) hA hW (fun M1 hA1 f1 => ?_)⟩
  conv => whnf
  refine ⟨i + 1, nI_k i 1, by omega, ?_⟩
  conv => whnf
  refine ⟨by omega, mo_kind hC (by omega) (hM.fr f1) hW ?_⟩
  conv => whnf
  exact ⟨fun _ => hN _ _ hA1 (hM.fr f1) hW hT, fun h => absurd rfl h⟩
theorem law_33 {C : CC} (hC : Clo C) {K : KT} {d : Nat} (hd : 12 ≤ d) {n : Nat} (hn : n ≤ 384) {g : Nat → Int32} {X : XT} (hX : CloS (some (n, g)) C K d bl_L X) {i : Nat} (hi : i + 6 ≤ n) {σ M : MT} (hA : AC σ M) (hM : AM σ M) (hW : WF σ) (hT : WT σ) (hN : ∀ (σ1 M1 : MT), AC σ1 M1 → AM σ1 M1 → WF σ1 → WT σ1 → X 1354 (LL i) [] M1) : X 1229 (LL i) [] M := by
  refine b_L_1229 hX ?_
  conv => whnf
  refine ⟨i + 1, nI_k i 1, by omega, ?_⟩
  conv => whnf
  refine ⟨i + 2, nI_k i 2, by omega, ?_⟩
  conv => whnf
  refine ⟨by omega, cl_as hC (by omega) hA hW (fun M1 hA1 f1 => ?_)⟩
  conv => whnf
  refine ⟨i + 1, nI_k i 1, by omega, ?_⟩
  conv => whnf
  refine ⟨i + 2, nI_k i 2, by omega, ?_⟩
  conv => whnf
  refine ⟨by omega, mo_as hC (by omega) (hM.fr f1) hW (fun M2 hM2 f2 => ?_)⟩
  conv => whnf
  exact ⟨fun _ => hN _ _ (hA1.fr f2) hM2 (wf_as hW) (wt_as hT), fun h => absurd rfl h⟩
theorem law_34 {C : CC} (hC : Clo C) {K : KT} {d : Nat} (hd : 12 ≤ d) {n : Nat} (hn : n ≤ 384) {g : Nat → Int32} {X : XT} (hX : CloS (some (n, g)) C K d bl_L X) {i : Nat} (hi : i + 6 ≤ n) {σ M : MT} (hA : AC σ M) (hM : AM σ M) (hW : WF σ) (hT : WT σ) (hN : ∀ (σ1 M1 : MT), AC σ1 M1 → AM σ1 M1 → WF σ1 → WT σ1 → X 1354 (LL i) [] M1) : X 1262 (LL i) [] M := by
  refine b_L_1262 hX ?_
  conv => whnf
  refine ⟨i + 1, nI_k i 1, by omega, ?_⟩
  conv => whnf
  refine ⟨i + 2, nI_k i 2, by omega, ?_⟩
  conv => whnf
  refine ⟨by omega, cl_ask hC (by omega) hA hW (fun M1 hA1 f1 => ?_)⟩
  conv => whnf
  refine ⟨i + 1, nI_k i 1, by omega, ?_⟩
  conv => whnf
  refine ⟨i + 2, nI_k i 2, by omega, ?_⟩
  conv => whnf
  refine ⟨by omega, mo_ask hC (by omega) (hM.fr f1) hW (fun M2 hM2 f2 => ?_)⟩
  conv => whnf
  exact ⟨fun _ => hN _ _ (hA1.fr f2) hM2 (wf_ask hW) (wt_ask hT), fun h => absurd rfl h⟩
theorem law_35 {C : CC} (hC : Clo C) {K : KT} {d : Nat} (hd : 12 ≤ d) {n : Nat} (hn : n ≤ 384) {g : Nat → Int32} {X : XT} (hX : CloS (some (n, g)) C K d bl_L X) {i : Nat} (hi : i + 6 ≤ n) {σ M : MT} (hA : AC σ M) (hM : AM σ M) (hW : WF σ) (hT : WT σ) (hN : ∀ (σ1 M1 : MT), AC σ1 M1 → AM σ1 M1 → WF σ1 → WT σ1 → X 1354 (LL i) [] M1) : X 1295 (LL i) [] M := by
  refine b_L_1295 hX ?_
  conv => whnf
  refine ⟨i + 1, nI_k i 1, by omega, ?_⟩
  conv => whnf
  refine ⟨by omega, cl_trace hC (by omega) hA hW ?_⟩
  conv => whnf
  refine ⟨i + 1, nI_k i 1, by omega, ?_⟩
  conv => whnf
  refine ⟨by omega, mo_trace hC (by omega) hM hW ?_⟩
  conv => whnf
  exact ⟨fun _ => hN _ _ hA hM hW hT, fun h => absurd rfl h⟩
theorem law_36 {C : CC} (hC : Clo C) {K : KT} {d : Nat} (hd : 12 ≤ d) {n : Nat} (hn : n ≤ 384) {g : Nat → Int32} {X : XT} (hX : CloS (some (n, g)) C K d bl_L X) {i : Nat} (hi : i + 6 ≤ n) {σ M : MT} (hA : AC σ M) (hM : AM σ M) (hW : WF σ) (hT : WT σ) (hN : ∀ (σ1 M1 : MT), AC σ1 M1 → AM σ1 M1 → WF σ1 → WT σ1 → X 1354 (LL i) [] M1) : X 1318 (LL i) [] M := by
  refine b_L_1318 hX ?_
  conv => whnf
  refine ⟨i + 1, nI_k i 1, by omega, ?_⟩
  conv => whnf
  refine ⟨by omega, cl_count hC (by omega) hA hW ?_⟩
  conv => whnf
  refine ⟨i + 1, nI_k i 1, by omega, ?_⟩
  conv => whnf
  refine ⟨by omega, mo_count hC (by omega) hM hW ?_⟩
  conv => whnf
  exact ⟨fun _ => hN _ _ hA hM hW hT, fun h => absurd rfl h⟩
theorem law_37 {C : CC} (hC : Clo C) {K : KT} {d : Nat} (hd : 12 ≤ d) {n : Nat} (hn : n ≤ 384) {g : Nat → Int32} {X : XT} (hX : CloS (some (n, g)) C K d bl_L X) {i : Nat} (hi : i + 6 ≤ n) {σ M : MT} (hA : AC σ M) (hM : AM σ M) (hW : WF σ) (hT : WT σ) (hN : ∀ (σ1 M1 : MT), AC σ1 M1 → AM σ1 M1 → WF σ1 → WT σ1 → X 1354 (LL i) [] M1) : X 1341 (LL i) [] M := by
  refine b_L_1341 hX ?_
  conv => whnf
  refine ⟨by omega, cl_status hC hA ?_⟩
  conv => whnf
  refine ⟨by omega, mo_status hC hM ?_⟩
  conv => whnf
  exact ⟨fun _ => hN _ _ hA hM hW hT, fun h => absurd rfl h⟩
theorem sub6 : ∀ n, n < 385 → (nI n - 6).toInt = (n : Int) - 6 := by decide +kernel
theorem law_loop {C : CC} (hC : Clo C) {K : KT} (hK : ∀ M, K (some (.int 1)) M) {d : Nat} (hd : 12 ≤ d) {n : Nat} (hn : n ≤ 384) {g : Nat → Int32} {X : XT} (hX : CloS (some (n, g)) C K d bl_L X) : ∀ (m i : Nat) (σ M : MT), n ≤ i + m → i ≤ n → AC σ M → AM σ M → WF σ → WT σ → X 18 (LL i) [] M := by
  intro m
  induction m with
  | zero =>
    intro i σ M h1 h2 hA hM hW hT
    refine b_L_18 hX ?_
    conv => whnf
    refine ⟨fun _ => ?_, fun q => absurd ?_ q⟩
    · refine b_L_1360 hX ?_
      conv => whnf
      exact ⟨Or.inr rfl, hK M⟩
    · rw [Int32.lt_iff_toInt_lt, sub6 n (by omega), nI_toInt (by omega)]
      omega
  | succ m ih =>
    intro i σ M h1 h2 hA hM hW hT
    refine b_L_18 hX ?_
    conv => whnf
    refine ⟨fun _ => ?_, fun q => ?_⟩
    · refine b_L_1360 hX ?_
      conv => whnf
      exact ⟨Or.inr rfl, hK M⟩
    · have hi : i + 6 ≤ n := by
        rw [Int32.lt_iff_toInt_lt, sub6 n (by omega), nI_toInt (by omega)] at q
        omega
      have hN : ∀ (σ1 M1 : MT), AC σ1 M1 → AM σ1 M1 → WF σ1 → WT σ1 → X 1354 (LL i) [] M1 := by
        intro σ1 M1 g1 g2 g3 g4
        refine b_L_1354 hX ?_
        conv => whnf
        have := ih (i + 6) σ1 M1 (by omega) (by omega) g1 g2 g3 g4
        rw [show nI i + 6 = nI (i + 6) from nI_add i 6]
        exact this
      conv => whnf
      refine ⟨i, rfl, by omega, ?_⟩
      conv => whnf
      refine ⟨fun _ => hN σ M hA hM hW hT, ?_⟩
      conv => whnf
      refine ⟨fun _ => law_0 hC hd hn hX hi hA hM hW hT hN, ?_⟩
      conv => whnf
      refine ⟨fun _ => law_1 hC hd hn hX hi hA hM hW hT hN, ?_⟩
      conv => whnf
      refine ⟨fun _ => law_2 hC hd hn hX hi hA hM hW hT hN, ?_⟩
      conv => whnf
      refine ⟨fun _ => law_3 hC hd hn hX hi hA hM hW hT hN, ?_⟩
      conv => whnf
      refine ⟨fun _ => law_4 hC hd hn hX hi hA hM hW hT hN, ?_⟩
      conv => whnf
      refine ⟨fun _ => law_5 hC hd hn hX hi hA hM hW hT hN, ?_⟩
      conv => whnf
      refine ⟨fun _ => law_6 hC hd hn hX hi hA hM hW hT hN, ?_⟩
      conv => whnf
      refine ⟨fun _ => law_7 hC hd hn hX hi hA hM hW hT hN, ?_⟩
      conv => whnf
      refine ⟨fun _ => law_8 hC hd hn hX hi hA hM hW hT hN, ?_⟩
      conv => whnf
      refine ⟨fun _ => law_9 hC hd hn hX hi hA hM hW hT hN, ?_⟩
      conv => whnf
      refine ⟨fun _ => law_10 hC hd hn hX hi hA hM hW hT hN, ?_⟩
      conv => whnf
      refine ⟨fun _ => law_11 hC hd hn hX hi hA hM hW hT hN, ?_⟩
      conv => whnf
      refine ⟨fun _ => law_12 hC hd hn hX hi hA hM hW hT hN, ?_⟩
      conv => whnf
      refine ⟨fun _ => law_13 hC hd hn hX hi hA hM hW hT hN, ?_⟩
      conv => whnf
      refine ⟨fun _ => law_14 hC hd hn hX hi hA hM hW hT hN, ?_⟩
      conv => whnf
      refine ⟨fun _ => law_15 hC hd hn hX hi hA hM hW hT hN, ?_⟩
      conv => whnf
      refine ⟨fun _ => law_16 hC hd hn hX hi hA hM hW hT hN, ?_⟩
      conv => whnf
      refine ⟨fun _ => law_17 hC hd hn hX hi hA hM hW hT hN, ?_⟩
      conv => whnf
      refine ⟨fun _ => law_18 hC hd hn hX hi hA hM hW hT hN, ?_⟩
      conv => whnf
      refine ⟨fun _ => law_19 hC hd hn hX hi hA hM hW hT hN, ?_⟩
      conv => whnf
      refine ⟨fun _ => law_20 hC hd hn hX hi hA hM hW hT hN, ?_⟩
      conv => whnf
      refine ⟨fun _ => law_21 hC hd hn hX hi hA hM hW hT hN, ?_⟩
      conv => whnf
      refine ⟨fun _ => law_22 hC hd hn hX hi hA hM hW hT hN, ?_⟩
      conv => whnf
      refine ⟨fun _ => law_23 hC hd hn hX hi hA hM hW hT hN, ?_⟩
      conv => whnf
      refine ⟨fun _ => law_24 hC hd hn hX hi hA hM hW hT hN, ?_⟩
      conv => whnf
      refine ⟨fun _ => law_25 hC hd hn hX hi hA hM hW hT hN, ?_⟩
      conv => whnf
      refine ⟨fun _ => law_26 hC hd hn hX hi hA hM hW hT hN, ?_⟩
      conv => whnf
      refine ⟨fun _ => law_27 hC hd hn hX hi hA hM hW hT hN, ?_⟩
      conv => whnf
      refine ⟨fun _ => law_28 hC hd hn hX hi hA hM hW hT hN, ?_⟩
      conv => whnf
      refine ⟨fun _ => law_29 hC hd hn hX hi hA hM hW hT hN, ?_⟩
      conv => whnf
      refine ⟨fun _ => law_30 hC hd hn hX hi hA hM hW hT hN, ?_⟩
      conv => whnf
      refine ⟨fun _ => law_31 hC hd hn hX hi hA hM hW hT hN, ?_⟩
      conv => whnf
      refine ⟨fun _ => law_32 hC hd hn hX hi hA hM hW hT hN, ?_⟩
      conv => whnf
      refine ⟨fun _ => law_33 hC hd hn hX hi hA hM hW hT hN, ?_⟩
      conv => whnf
      refine ⟨fun _ => law_34 hC hd hn hX hi hA hM hW hT hN, ?_⟩
      conv => whnf
      refine ⟨fun _ => law_35 hC hd hn hX hi hA hM hW hT hN, ?_⟩
      conv => whnf
      refine ⟨fun _ => law_36 hC hd hn hX hi hA hM hW hT hN, ?_⟩
      conv => whnf
      refine ⟨fun _ => law_37 hC hd hn hX hi hA hM hW hT hN, ?_⟩
      exact trivial
theorem law_body {C : CC} (hC : Clo C) {K : KT} (hK : ∀ M, K (some (.int 1)) M) {d : Nat} (hd : 12 ≤ d) {n : Nat} (hn : n ≤ 384) {g : Nat → Int32} {X : XT} (hX : CloS (some (n, g)) C K d bl_L X) : X 16 [some (.float 0), some (.ref 0), some (.ref 61), none] [] M0 := by
  refine b_L_16 hX ?_
  conv => whnf
  exact law_loop hC hK hd hn hX n 0 S0 M0 (by omega) (by omega) AC0 AM0 WF0 WT0
