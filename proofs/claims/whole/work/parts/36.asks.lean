/-! what is asked: bodies leave their numbers -/
def tr (a o k : Nat) : MT → Nat → List Int32 → MT
  | M, _, [] => M
  | M, t, x :: l => tr a o k (wr (wr M a t x) o k (nI (t + 1))) (t + 1) l
theorem tr_off {a o k q : Nat} (h1 : q ≠ a) (h2 : q ≠ o) : ∀ {l : List Int32} {M : MT} {t : Nat}, tr a o k M t l q = M q := by
  intro l
  induction l with
  | nil => intro M t; rfl
  | cons x l ih => intro M t; show tr a o k _ _ l q = _; rw [ih, wr_off h2, wr_off h1]
theorem tr_o {a o k j : Nat} (h1 : o ≠ a) (h2 : j ≠ k) : ∀ {l : List Int32} {M : MT} {t : Nat}, tr a o k M t l o j = M o j := by
  intro l
  induction l with
  | nil => intro M t; rfl
  | cons x l ih => intro M t; show tr a o k _ _ l o j = _; rw [ih, wr_ne h2, wr_off h1]
theorem tr_n {a o k : Nat} : ∀ {l : List Int32} {M : MT} {t : Nat}, M o k = nI t → tr a o k M t l o k = nI (t + l.length) := by
  intro l
  induction l with
  | nil => intro M t h; exact h
  | cons x l ih => intro M t h; show tr a o k _ _ l o k = _; rw [ih wr_at]; congr 1; simp only [List.length_cons]; omega
def wl8 : (Nat → Int32) → Nat → List Int32 → Nat → Int32
  | g, _, [] => g
  | g, t, x :: l => wl8 (upd g t x) (t + 1) l
theorem tr_a {a o k : Nat} (h : a ≠ o) : ∀ {l : List Int32} {M : MT} {t : Nat}, tr a o k M t l a = wl8 (M a) t l := by
  intro l
  induction l with
  | nil => intro M t; rfl
  | cons x l ih => intro M t; show tr a o k _ _ l a = wl8 _ _ l; rw [ih, wr_off h, wr_self]
theorem wl8_congr : ∀ {l : List Int32} {f g : Nat → Int32} {t : Nat}, (∀ i, i < 16 → f i = g i) → ∀ i, i < 16 → wl8 f t l i = wl8 g t l i := by
  intro l
  induction l with
  | nil => intro f g t h; exact h
  | cons x l ih =>
    intro f g t h
    refine ih (fun i hi => ?_)
    unfold upd
    rw [h i hi]
theorem c_leave {C : CC} (hC : Clo C) {d : Nat} {M : MT} {K : KT} {x : Int32} {t : Nat} (h1 : M 44 1 = nI t) (ht : t < 16) (hK : K none (wr (wr M 45 t x) 44 1 (nI (t + 1)))) : C d 7 [.ref 44, .int x] M K := by
  refine g_X1_leave hC (fun X hX => ?_)
  refine b_X1_leave_0 hX ?_
  conv => whnf
  rw [h1]
  refine ⟨fun q => absurd ((le_nI (a := 16) (by omega) (by omega)).mp q) (by omega), fun _ => ?_⟩
  conv => whnf
  refine ⟨t, h1, ht, ?_⟩
  conv => whnf
  refine b_X1_leave_29 hX ?_
  conv => whnf
  rw [wr_off (by decide), h1, nI_1]
  exact hK
theorem c_leaves {C : CC} (hC : Clo C) {d : Nat} {M : MT} {K : KT} {x : Int32} {t : Nat} (h1 : M 61 25 = nI t) (ht : t < 16) (hK : K none (wr (wr M 75 t x) 61 25 (nI (t + 1)))) : C d 188 [.ref 61, .int x] M K := by
  refine g_X8_leaves hC (fun X hX => ?_)
  refine b_X8_leaves_0 hX ?_
  conv => whnf
  rw [h1]
  refine ⟨fun q => absurd ((le_nI (a := 16) (by omega) (by omega)).mp q) (by omega), fun _ => ?_⟩
  conv => whnf
  refine ⟨t, h1, ht, ?_⟩
  conv => whnf
  refine b_X8_leaves_29 hX ?_
  conv => whnf
  rw [wr_off (by decide), h1, nI_1]
  exact hK
theorem c_sizeBody {C : CC} (hC : Clo C) {d : Nat} (hd : 1 ≤ d) {M : MT} {K : KT} {k : Nat} (hs : M 44 3 = nI k) (hk : k ≤ 5) (hK : K (some (.int (sizeB k))) M) : C d 4 [.ref 44] M K := by
  refine g_X1_sizeBody hC (fun X hX => ?_)
  refine b_X1_sizeBody_0 hX ?_
  conv => whnf
  rw [hs]
  refine ⟨by omega, c_within hC (fun _ _ => ?_) (fun q => absurd ⟨nI_pos' (by omega), (le_nI (b := 5) (by omega) (by omega)).mpr hk⟩ q)⟩
  conv => whnf
  refine ⟨fun q => absurd q (by decide), fun _ => ?_⟩
  conv => whnf
  refine ⟨k, hs, by omega, ?_⟩
  conv => whnf
  exact hK
theorem c_markBody {C : CC} (hC : Clo C) {d : Nat} (hd : 1 ≤ d) {M : MT} {K : KT} {k : Nat} (hs : M 44 3 = nI k) (hk : k ≤ 5) (hK : K (some (.int (markB k))) M) : C d 5 [.ref 44] M K := by
  refine g_X1_markBody hC (fun X hX => ?_)
  refine b_X1_markBody_0 hX ?_
  conv => whnf
  rw [hs]
  refine ⟨by omega, c_within hC (fun _ _ => ?_) (fun q => absurd ⟨nI_pos' (by omega), (le_nI (b := 5) (by omega) (by omega)).mpr hk⟩ q)⟩
  conv => whnf
  refine ⟨fun q => absurd q (by decide), fun _ => ?_⟩
  conv => whnf
  refine ⟨k, hs, by omega, ?_⟩
  conv => whnf
  exact hK
theorem r10 {C : CC} (hC : Clo C) {d : Nat} (hd : 1 ≤ d) {M : MT} {K : KT} {t e : Nat} (h1 : M 44 1 = nI t) (ht : t + 1 ≤ 16) (he : e + 1 ≤ 16) (hK : K (some (.int (M 44 4))) (tr 45 44 1 M t [10])) : C d 6 [.ref 44, .int 10, .int (nI e)] M K := by
  refine g_X1_run hC (fun X hX => ?_)
  refine b_X1_run_0 hX ?_
  conv => whnf
  refine ⟨fun _ => ?_, fun q => absurd ((lt_nI (b := 16) (by omega) (by omega)).mpr (by omega)) q⟩
  refine b_X1_run_8 hX ?_
  conv => whnf
  refine ⟨by omega, c_leave hC h1 (by omega) ?_⟩
  conv => whnf
  refine ⟨fun h => absurd h (by decide), fun _ => ?_, fun h => absurd h (by decide), fun h => absurd h (by decide), fun h => absurd h (by decide), fun h => absurd h (by decide), fun h => absurd h (by decide), fun h => absurd h (by decide), fun h => absurd h (by decide), fun h => absurd h (by decide), fun h => absurd h (by decide), fun h => absurd h (by decide), fun h => absurd h (by decide), fun h => absurd h (by decide), fun h => absurd h (by decide), fun h => absurd h (by decide), trivial⟩
  refine b_X1_run_88 hX ?_
  conv => whnf
  rw [wr_ne (by decide), wr_off (by decide)]
  exact hK
theorem r20 {C : CC} (hC : Clo C) {d : Nat} (hd : 1 ≤ d) {M : MT} {K : KT} {t e : Nat} (h1 : M 44 1 = nI t) (ht : t + 1 ≤ 16) (he : e + 1 ≤ 16) (hK : K (some (.int (M 44 2))) (tr 45 44 1 M t [20])) : C d 6 [.ref 44, .int 20, .int (nI e)] M K := by
  refine g_X1_run hC (fun X hX => ?_)
  refine b_X1_run_0 hX ?_
  conv => whnf
  refine ⟨fun _ => ?_, fun q => absurd ((lt_nI (b := 16) (by omega) (by omega)).mpr (by omega)) q⟩
  refine b_X1_run_8 hX ?_
  conv => whnf
  refine ⟨by omega, c_leave hC h1 (by omega) ?_⟩
  conv => whnf
  refine ⟨fun h => absurd h (by decide), fun h => absurd h (by decide), fun h => absurd h (by decide), fun h => absurd h (by decide), fun h => absurd h (by decide), fun h => absurd h (by decide), fun h => absurd h (by decide), fun h => absurd h (by decide), fun h => absurd h (by decide), fun h => absurd h (by decide), fun h => absurd h (by decide), fun _ => ?_, fun h => absurd h (by decide), fun h => absurd h (by decide), fun h => absurd h (by decide), fun h => absurd h (by decide), trivial⟩
  refine b_X1_run_151 hX ?_
  conv => whnf
  rw [wr_ne (by decide), wr_off (by decide)]
  exact hK
theorem r13 {C : CC} (hC : Clo C) {d : Nat} (hd : 2 ≤ d) {M : MT} {K : KT} {t e : Nat} (h1 : M 44 1 = nI t) (ht : t + 2 ≤ 16) (he : e + 2 ≤ 16) (hK : K (some (.int (M 44 4 - 100))) (tr 45 44 1 M t [13, 10])) : C d 6 [.ref 44, .int 13, .int (nI e)] M K := by
  refine g_X1_run hC (fun X hX => ?_)
  refine b_X1_run_0 hX ?_
  conv => whnf
  refine ⟨fun _ => ?_, fun q => absurd ((lt_nI (b := 16) (by omega) (by omega)).mpr (by omega)) q⟩
  refine b_X1_run_8 hX ?_
  conv => whnf
  refine ⟨by omega, c_leave hC h1 (by omega) ?_⟩
  conv => whnf
  refine ⟨fun h => absurd h (by decide), fun h => absurd h (by decide), fun h => absurd h (by decide), fun h => absurd h (by decide), fun _ => ?_, fun h => absurd h (by decide), fun h => absurd h (by decide), fun h => absurd h (by decide), fun h => absurd h (by decide), fun h => absurd h (by decide), fun h => absurd h (by decide), fun h => absurd h (by decide), fun h => absurd h (by decide), fun h => absurd h (by decide), fun h => absurd h (by decide), fun h => absurd h (by decide), trivial⟩
  refine b_X1_run_126 hX ?_
  conv => whnf
  rw [nI_1]
  refine ⟨by omega, r10 hC (by omega) wr_at (by omega) (by omega) ?_⟩
  conv => whnf
  rw [wr_ne (by decide), wr_off (by decide)]
  exact hK
theorem r14 {C : CC} (hC : Clo C) {d : Nat} (hd : 3 ≤ d) {M : MT} {K : KT} {t e : Nat} (h1 : M 44 1 = nI t) (ht : t + 3 ≤ 16) (he : e + 3 ≤ 16) (hK : K (some (.int (2 * (M 44 4 - 100)))) (tr 45 44 1 M t [14, 13, 10])) : C d 6 [.ref 44, .int 14, .int (nI e)] M K := by
  refine g_X1_run hC (fun X hX => ?_)
  refine b_X1_run_0 hX ?_
  conv => whnf
  refine ⟨fun _ => ?_, fun q => absurd ((lt_nI (b := 16) (by omega) (by omega)).mpr (by omega)) q⟩
  refine b_X1_run_8 hX ?_
  conv => whnf
  refine ⟨by omega, c_leave hC h1 (by omega) ?_⟩
  conv => whnf
  refine ⟨fun h => absurd h (by decide), fun h => absurd h (by decide), fun h => absurd h (by decide), fun h => absurd h (by decide), fun h => absurd h (by decide), fun _ => ?_, fun h => absurd h (by decide), fun h => absurd h (by decide), fun h => absurd h (by decide), fun h => absurd h (by decide), fun h => absurd h (by decide), fun h => absurd h (by decide), fun h => absurd h (by decide), fun h => absurd h (by decide), fun h => absurd h (by decide), fun h => absurd h (by decide), trivial⟩
  refine b_X1_run_139 hX ?_
  conv => whnf
  rw [nI_1]
  refine ⟨by omega, r13 hC (by omega) wr_at (by omega) (by omega) ?_⟩
  conv => whnf
  rw [wr_ne (by decide), wr_off (by decide)]
  exact hK
theorem r21 {C : CC} (hC : Clo C) {d : Nat} (hd : 2 ≤ d) {M : MT} {K : KT} {t e : Nat} (h1 : M 44 1 = nI t) (ht : t + 2 ≤ 16) (he : e + 2 ≤ 16) (hK : K (some (.int (M 44 2 + M 44 5))) (tr 45 44 1 M t [21, 20])) : C d 6 [.ref 44, .int 21, .int (nI e)] M K := by
  refine g_X1_run hC (fun X hX => ?_)
  refine b_X1_run_0 hX ?_
  conv => whnf
  refine ⟨fun _ => ?_, fun q => absurd ((lt_nI (b := 16) (by omega) (by omega)).mpr (by omega)) q⟩
  refine b_X1_run_8 hX ?_
  conv => whnf
  refine ⟨by omega, c_leave hC h1 (by omega) ?_⟩
  conv => whnf
  refine ⟨fun h => absurd h (by decide), fun h => absurd h (by decide), fun h => absurd h (by decide), fun h => absurd h (by decide), fun h => absurd h (by decide), fun h => absurd h (by decide), fun h => absurd h (by decide), fun h => absurd h (by decide), fun h => absurd h (by decide), fun h => absurd h (by decide), fun h => absurd h (by decide), fun h => absurd h (by decide), fun _ => ?_, fun h => absurd h (by decide), fun h => absurd h (by decide), fun h => absurd h (by decide), trivial⟩
  refine b_X1_run_156 hX ?_
  conv => whnf
  rw [nI_1]
  refine ⟨by omega, r20 hC (by omega) wr_at (by omega) (by omega) ?_⟩
  conv => whnf
  rw [tr_o (by decide) (by decide), wr_ne (by decide), wr_ne (by decide), wr_off (by decide)]
  exact hK
theorem r22 {C : CC} (hC : Clo C) {d : Nat} (hd : 3 ≤ d) {M : MT} {K : KT} {t e : Nat} (h1 : M 44 1 = nI t) (ht : t + 3 ≤ 16) (he : e + 3 ≤ 16) (hK : K (some (.int (M 44 2 + M 44 5 - 1000))) (tr 45 44 1 M t [22, 21, 20])) : C d 6 [.ref 44, .int 22, .int (nI e)] M K := by
  refine g_X1_run hC (fun X hX => ?_)
  refine b_X1_run_0 hX ?_
  conv => whnf
  refine ⟨fun _ => ?_, fun q => absurd ((lt_nI (b := 16) (by omega) (by omega)).mpr (by omega)) q⟩
  refine b_X1_run_8 hX ?_
  conv => whnf
  refine ⟨by omega, c_leave hC h1 (by omega) ?_⟩
  conv => whnf
  refine ⟨fun h => absurd h (by decide), fun h => absurd h (by decide), fun h => absurd h (by decide), fun h => absurd h (by decide), fun h => absurd h (by decide), fun h => absurd h (by decide), fun h => absurd h (by decide), fun h => absurd h (by decide), fun h => absurd h (by decide), fun h => absurd h (by decide), fun h => absurd h (by decide), fun h => absurd h (by decide), fun h => absurd h (by decide), fun _ => ?_, fun h => absurd h (by decide), fun h => absurd h (by decide), trivial⟩
  refine b_X1_run_171 hX ?_
  conv => whnf
  rw [nI_1]
  refine ⟨by omega, r21 hC (by omega) wr_at (by omega) (by omega) ?_⟩
  conv => whnf
  rw [wr_ne (by decide), wr_ne (by decide), wr_off (by decide)]
  exact hK
theorem r24 {C : CC} (hC : Clo C) {d : Nat} (hd : 3 ≤ d) {M : MT} {K : KT} {t e : Nat} (h1 : M 44 1 = nI t) (ht : t + 3 ≤ 16) (he : e + 3 ≤ 16) (hK : K (some (.int (2 * (M 44 2 + M 44 5)))) (tr 45 44 1 M t [24, 21, 20])) : C d 6 [.ref 44, .int 24, .int (nI e)] M K := by
  refine g_X1_run hC (fun X hX => ?_)
  refine b_X1_run_0 hX ?_
  conv => whnf
  refine ⟨fun _ => ?_, fun q => absurd ((lt_nI (b := 16) (by omega) (by omega)).mpr (by omega)) q⟩
  refine b_X1_run_8 hX ?_
  conv => whnf
  refine ⟨by omega, c_leave hC h1 (by omega) ?_⟩
  conv => whnf
  refine ⟨fun h => absurd h (by decide), fun h => absurd h (by decide), fun h => absurd h (by decide), fun h => absurd h (by decide), fun h => absurd h (by decide), fun h => absurd h (by decide), fun h => absurd h (by decide), fun h => absurd h (by decide), fun h => absurd h (by decide), fun h => absurd h (by decide), fun h => absurd h (by decide), fun h => absurd h (by decide), fun h => absurd h (by decide), fun h => absurd h (by decide), fun h => absurd h (by decide), fun _ => ?_, trivial⟩
  refine b_X1_run_207 hX ?_
  conv => whnf
  rw [nI_1]
  refine ⟨by omega, r21 hC (by omega) wr_at (by omega) (by omega) ?_⟩
  conv => whnf
  rw [wr_ne (by decide), wr_ne (by decide), wr_off (by decide)]
  exact hK
theorem r11_1 {C : CC} (hC : Clo C) {d : Nat} (hd : 4 ≤ d) {M : MT} {K : KT} {t e : Nat} (h1 : M 44 1 = nI t) (ht : t + 4 ≤ 16) (he : e + 4 ≤ 16) (hs : M 44 3 = nI 1) (hK : K (some (.int (M 44 4 + (M 44 2 + M 44 5)))) (tr 45 44 1 M t [11, 10, 21, 20])) : C d 6 [.ref 44, .int 11, .int (nI e)] M K := by
  refine g_X1_run hC (fun X hX => ?_)
  refine b_X1_run_0 hX ?_
  conv => whnf
  refine ⟨fun _ => ?_, fun q => absurd ((lt_nI (b := 16) (by omega) (by omega)).mpr (by omega)) q⟩
  refine b_X1_run_8 hX ?_
  conv => whnf
  refine ⟨by omega, c_leave hC h1 (by omega) ?_⟩
  conv => whnf
  refine ⟨fun h => absurd h (by decide), fun h => absurd h (by decide), fun _ => ?_, fun h => absurd h (by decide), fun h => absurd h (by decide), fun h => absurd h (by decide), fun h => absurd h (by decide), fun h => absurd h (by decide), fun h => absurd h (by decide), fun h => absurd h (by decide), fun h => absurd h (by decide), fun h => absurd h (by decide), fun h => absurd h (by decide), fun h => absurd h (by decide), fun h => absurd h (by decide), fun h => absurd h (by decide), trivial⟩
  refine b_X1_run_93 hX ?_
  conv => whnf
  rw [nI_1]
  refine ⟨by omega, r10 hC (by omega) wr_at (by omega) (by omega) ?_⟩
  conv => whnf
  refine ⟨by omega, c_markBody hC (by omega) (k := 1) (by rw [tr_o (by decide) (by decide), wr_ne (by decide), wr_off (by decide)]; exact hs) (by omega) ?_⟩
  conv => whnf
  rw [nI_1]
  refine ⟨by omega, r21 hC (by omega) (t := t + 2) (tr_n (l := [10]) wr_at) (by omega) (by omega) ?_⟩
  conv => whnf
  rw [tr_o (by decide) (by decide), tr_o (by decide) (by decide), wr_ne (by decide), wr_ne (by decide), wr_ne (by decide), wr_off (by decide)]
  exact hK
theorem r11_2 {C : CC} (hC : Clo C) {d : Nat} (hd : 4 ≤ d) {M : MT} {K : KT} {t e : Nat} (h1 : M 44 1 = nI t) (ht : t + 5 ≤ 16) (he : e + 5 ≤ 16) (hs : M 44 3 = nI 2) (hK : K (some (.int (M 44 4 + 2 * (M 44 2 + M 44 5)))) (tr 45 44 1 M t [11, 10, 24, 21, 20])) : C d 6 [.ref 44, .int 11, .int (nI e)] M K := by
  refine g_X1_run hC (fun X hX => ?_)
  refine b_X1_run_0 hX ?_
  conv => whnf
  refine ⟨fun _ => ?_, fun q => absurd ((lt_nI (b := 16) (by omega) (by omega)).mpr (by omega)) q⟩
  refine b_X1_run_8 hX ?_
  conv => whnf
  refine ⟨by omega, c_leave hC h1 (by omega) ?_⟩
  conv => whnf
  refine ⟨fun h => absurd h (by decide), fun h => absurd h (by decide), fun _ => ?_, fun h => absurd h (by decide), fun h => absurd h (by decide), fun h => absurd h (by decide), fun h => absurd h (by decide), fun h => absurd h (by decide), fun h => absurd h (by decide), fun h => absurd h (by decide), fun h => absurd h (by decide), fun h => absurd h (by decide), fun h => absurd h (by decide), fun h => absurd h (by decide), fun h => absurd h (by decide), fun h => absurd h (by decide), trivial⟩
  refine b_X1_run_93 hX ?_
  conv => whnf
  rw [nI_1]
  refine ⟨by omega, r10 hC (by omega) wr_at (by omega) (by omega) ?_⟩
  conv => whnf
  refine ⟨by omega, c_markBody hC (by omega) (k := 2) (by rw [tr_o (by decide) (by decide), wr_ne (by decide), wr_off (by decide)]; exact hs) (by omega) ?_⟩
  conv => whnf
  rw [nI_1]
  refine ⟨by omega, r24 hC (by omega) (t := t + 2) (tr_n (l := [10]) wr_at) (by omega) (by omega) ?_⟩
  conv => whnf
  rw [tr_o (by decide) (by decide), tr_o (by decide) (by decide), wr_ne (by decide), wr_ne (by decide), wr_ne (by decide), wr_off (by decide)]
  exact hK
theorem r11_3 {C : CC} (hC : Clo C) {d : Nat} (hd : 4 ≤ d) {M : MT} {K : KT} {t e : Nat} (h1 : M 44 1 = nI t) (ht : t + 5 ≤ 16) (he : e + 5 ≤ 16) (hs : M 44 3 = nI 3) (hK : K (some (.int (M 44 4 + (M 44 2 + M 44 5 - 1000)))) (tr 45 44 1 M t [11, 10, 22, 21, 20])) : C d 6 [.ref 44, .int 11, .int (nI e)] M K := by
  refine g_X1_run hC (fun X hX => ?_)
  refine b_X1_run_0 hX ?_
  conv => whnf
  refine ⟨fun _ => ?_, fun q => absurd ((lt_nI (b := 16) (by omega) (by omega)).mpr (by omega)) q⟩
  refine b_X1_run_8 hX ?_
  conv => whnf
  refine ⟨by omega, c_leave hC h1 (by omega) ?_⟩
  conv => whnf
  refine ⟨fun h => absurd h (by decide), fun h => absurd h (by decide), fun _ => ?_, fun h => absurd h (by decide), fun h => absurd h (by decide), fun h => absurd h (by decide), fun h => absurd h (by decide), fun h => absurd h (by decide), fun h => absurd h (by decide), fun h => absurd h (by decide), fun h => absurd h (by decide), fun h => absurd h (by decide), fun h => absurd h (by decide), fun h => absurd h (by decide), fun h => absurd h (by decide), fun h => absurd h (by decide), trivial⟩
  refine b_X1_run_93 hX ?_
  conv => whnf
  rw [nI_1]
  refine ⟨by omega, r10 hC (by omega) wr_at (by omega) (by omega) ?_⟩
  conv => whnf
  refine ⟨by omega, c_markBody hC (by omega) (k := 3) (by rw [tr_o (by decide) (by decide), wr_ne (by decide), wr_off (by decide)]; exact hs) (by omega) ?_⟩
  conv => whnf
  rw [nI_1]
  refine ⟨by omega, r22 hC (by omega) (t := t + 2) (tr_n (l := [10]) wr_at) (by omega) (by omega) ?_⟩
  conv => whnf
  rw [tr_o (by decide) (by decide), tr_o (by decide) (by decide), wr_ne (by decide), wr_ne (by decide), wr_ne (by decide), wr_off (by decide)]
  exact hK
theorem r12 {C : CC} (hC : Clo C) {d : Nat} (hd : 5 ≤ d) {M : MT} {K : KT} {t e : Nat} (h1 : M 44 1 = nI t) (ht : t + 6 ≤ 16) (he : e + 6 ≤ 16) (hs : M 44 3 = nI 2) (hK : K (some (.int (-(M 44 4 + 2 * (M 44 2 + M 44 5))))) (tr 45 44 1 M t [12, 11, 10, 24, 21, 20])) : C d 6 [.ref 44, .int 12, .int (nI e)] M K := by
  refine g_X1_run hC (fun X hX => ?_)
  refine b_X1_run_0 hX ?_
  conv => whnf
  refine ⟨fun _ => ?_, fun q => absurd ((lt_nI (b := 16) (by omega) (by omega)).mpr (by omega)) q⟩
  refine b_X1_run_8 hX ?_
  conv => whnf
  refine ⟨by omega, c_leave hC h1 (by omega) ?_⟩
  conv => whnf
  refine ⟨fun h => absurd h (by decide), fun h => absurd h (by decide), fun h => absurd h (by decide), fun _ => ?_, fun h => absurd h (by decide), fun h => absurd h (by decide), fun h => absurd h (by decide), fun h => absurd h (by decide), fun h => absurd h (by decide), fun h => absurd h (by decide), fun h => absurd h (by decide), fun h => absurd h (by decide), fun h => absurd h (by decide), fun h => absurd h (by decide), fun h => absurd h (by decide), fun h => absurd h (by decide), trivial⟩
  refine b_X1_run_115 hX ?_
  conv => whnf
  rw [nI_1]
  refine ⟨by omega, r11_2 hC (by omega) wr_at (by omega) (by omega) (by rw [wr_ne (by decide), wr_off (by decide)]; exact hs) ?_⟩
  conv => whnf
  rw [wr_ne (by decide), wr_ne (by decide), wr_ne (by decide), wr_off (by decide)]
  exact hK
theorem r23_4 {C : CC} (hC : Clo C) {d : Nat} (hd : 4 ≤ d) {M : MT} {K : KT} {t e : Nat} (h1 : M 44 1 = nI t) (ht : t + 4 ≤ 16) (he : e + 4 ≤ 16) (hs : M 44 3 = nI 4) (hK : K (some (.int (M 44 2 - (M 44 4 - 100)))) (tr 45 44 1 M t [23, 20, 13, 10])) : C d 6 [.ref 44, .int 23, .int (nI e)] M K := by
  refine g_X1_run hC (fun X hX => ?_)
  refine b_X1_run_0 hX ?_
  conv => whnf
  refine ⟨fun _ => ?_, fun q => absurd ((lt_nI (b := 16) (by omega) (by omega)).mpr (by omega)) q⟩
  refine b_X1_run_8 hX ?_
  conv => whnf
  refine ⟨by omega, c_leave hC h1 (by omega) ?_⟩
  conv => whnf
  refine ⟨fun h => absurd h (by decide), fun h => absurd h (by decide), fun h => absurd h (by decide), fun h => absurd h (by decide), fun h => absurd h (by decide), fun h => absurd h (by decide), fun h => absurd h (by decide), fun h => absurd h (by decide), fun h => absurd h (by decide), fun h => absurd h (by decide), fun h => absurd h (by decide), fun h => absurd h (by decide), fun h => absurd h (by decide), fun h => absurd h (by decide), fun _ => ?_, fun h => absurd h (by decide), trivial⟩
  refine b_X1_run_185 hX ?_
  conv => whnf
  rw [nI_1]
  refine ⟨by omega, r20 hC (by omega) wr_at (by omega) (by omega) ?_⟩
  conv => whnf
  refine ⟨by omega, c_sizeBody hC (by omega) (k := 4) (by rw [tr_o (by decide) (by decide), wr_ne (by decide), wr_off (by decide)]; exact hs) (by omega) ?_⟩
  conv => whnf
  rw [nI_1]
  refine ⟨by omega, r13 hC (by omega) (t := t + 2) (tr_n (l := [20]) wr_at) (by omega) (by omega) ?_⟩
  conv => whnf
  rw [tr_o (by decide) (by decide), wr_ne (by decide), wr_ne (by decide), wr_off (by decide)]
  exact hK
theorem r23_5 {C : CC} (hC : Clo C) {d : Nat} (hd : 4 ≤ d) {M : MT} {K : KT} {t e : Nat} (h1 : M 44 1 = nI t) (ht : t + 5 ≤ 16) (he : e + 5 ≤ 16) (hs : M 44 3 = nI 5) (hK : K (some (.int (M 44 2 - 2 * (M 44 4 - 100)))) (tr 45 44 1 M t [23, 20, 14, 13, 10])) : C d 6 [.ref 44, .int 23, .int (nI e)] M K := by
  refine g_X1_run hC (fun X hX => ?_)
  refine b_X1_run_0 hX ?_
  conv => whnf
  refine ⟨fun _ => ?_, fun q => absurd ((lt_nI (b := 16) (by omega) (by omega)).mpr (by omega)) q⟩
  refine b_X1_run_8 hX ?_
  conv => whnf
  refine ⟨by omega, c_leave hC h1 (by omega) ?_⟩
  conv => whnf
  refine ⟨fun h => absurd h (by decide), fun h => absurd h (by decide), fun h => absurd h (by decide), fun h => absurd h (by decide), fun h => absurd h (by decide), fun h => absurd h (by decide), fun h => absurd h (by decide), fun h => absurd h (by decide), fun h => absurd h (by decide), fun h => absurd h (by decide), fun h => absurd h (by decide), fun h => absurd h (by decide), fun h => absurd h (by decide), fun h => absurd h (by decide), fun _ => ?_, fun h => absurd h (by decide), trivial⟩
  refine b_X1_run_185 hX ?_
  conv => whnf
  rw [nI_1]
  refine ⟨by omega, r20 hC (by omega) wr_at (by omega) (by omega) ?_⟩
  conv => whnf
  refine ⟨by omega, c_sizeBody hC (by omega) (k := 5) (by rw [tr_o (by decide) (by decide), wr_ne (by decide), wr_off (by decide)]; exact hs) (by omega) ?_⟩
  conv => whnf
  rw [nI_1]
  refine ⟨by omega, r14 hC (by omega) (t := t + 2) (tr_n (l := [20]) wr_at) (by omega) (by omega) ?_⟩
  conv => whnf
  rw [tr_o (by decide) (by decide), wr_ne (by decide), wr_ne (by decide), wr_off (by decide)]
  exact hK
def trL (k : Nat) (what : Int32) : List Int32 := if what = 0 then (match k with
    | 1 => [11, 10, 21, 20]
    | 2 => [12, 11, 10, 24, 21, 20]
    | 3 => [11, 10, 22, 21, 20]
    | 4 => [13, 10]
    | _ => [14, 13, 10]) else (match k with
    | 1 => [21, 20]
    | 2 => [24, 21, 20]
    | 3 => [22, 21, 20]
    | 4 => [23, 20, 13, 10]
    | _ => [23, 20, 14, 13, 10])
def trV (k : Nat) (what q one h : Int32) : Int32 := if what = 0 then (match k with
    | 1 => q + (one + h)
    | 2 => -(q + 2 * (one + h))
    | 3 => q + (one + h - 1000)
    | 4 => q - 100
    | _ => 2 * (q - 100)) else (match k with
    | 1 => one + h
    | 2 => 2 * (one + h)
    | 3 => one + h - 1000
    | 4 => one - (q - 100)
    | _ => one - 2 * (q - 100))
noncomputable def askR (σ : MT) (p what : Int32) : Int32 × MT := pit (isPl (nP (σ 5)) p ∧ (0 ≤ what ∧ what ≤ 1)) (trV (tN (σ 5 (21 + tN p))) what (σ 5 (26 + tN p)) p (σ 5 (31 + tN p)), sr (wr σ 3 4 (nI (trL (tN (σ 5 (21 + tN p))) what).length)) 8 (wl8 (σ 8) 0 (trL (tN (σ 5 (21 + tN p))) what))) (-1000001, σ)
theorem nA_tr {σ : MT} {v : Int32} {g : Nat → Int32} : nA (sr (wr σ 3 4 v) 8 g) = nA σ := by unfold nA; rw [sr_ne (by omega), wr_ne (by omega)]
theorem AC.tr {σ M M' : MT} {v : Int32} {g : Nat → Int32} (h : AC σ M) (f : Fm M M' 44 45) (h1 : M' 44 1 = v) (h2 : ∀ i, i < 16 → M' 45 i = g i) : AC (sr (wr σ 3 4 v) 8 g) M' := by
  obtain ⟨⟨a1, a2⟩, ⟨a3, a3'⟩, ⟨a4, a5⟩, ⟨h6, o, h6a, h6b, h6c⟩, ⟨h7, h8, h9⟩, -⟩ := h
  refine ⟨⟨fun i hi => ?_, fun i hi => ?_⟩, ⟨?_, ?_⟩, ⟨?_, fun i hi => ?_⟩, ⟨?_, o, h6a, ?_, fun i hi => ?_⟩, ⟨?_, ?_, ?_⟩, ?_, fun i hi => ?_⟩
  · rw [f 2 (by omega), f 3 (by omega), sr_ne (by omega), sr_ne (by omega), wr_off (p := 3) (by omega), wr_off (p := 3) (by omega)]; exact a1 i hi
  · rw [f 4 (by omega), sr_ne (by omega), wr_off (p := 3) (by omega)]; exact a2 i hi
  · rw [f 0 (by omega), sr_ne (by omega), wr_ne (by omega)]; exact a3
  · rw [f 0 (by omega), sr_ne (by omega), wr_ne (by omega)]; exact a3'
  · rw [f 6 (by omega), sr_ne (by omega), wr_ne (by omega)]; exact a4
  · rw [f 7 (by omega), sr_ne (by omega), wr_off (p := 3) (by omega)]; exact a5 i hi
  · rw [f 22 (by omega), sr_ne (by omega), wr_ne (by omega)]; exact h6
  · rw [f 22 (by omega)]; exact h6b
  · rw [nA_tr] at hi
    rw [sr_ne (by omega), wr_off (p := 3) (by omega)]
    exact (h6c i hi).fr (f 23 (by omega))
  · rw [sr_ne (by omega), wr_off (p := 3) (by omega)]; exact h7.fr f (by omega)
  · rw [sr_ne (by omega), wr_off (p := 3) (by omega)]; exact h8.fr f (by omega)
  · rw [sr_ne (by omega), wr_off (p := 3) (by omega)]; exact h9.fr f (by omega)
  · rw [h1, sr_ne (by omega), wr_at]
  · rw [h2 i hi, sr_at]
theorem AM.tr {σ M M' : MT} {v : Int32} {g : Nat → Int32} (h : AM σ M) (e : ∀ q, q ≠ 61 → q ≠ 75 → M' q = M q) (e1 : ∀ k, k ≠ 25 → M' 61 k = M 61 k) (h1 : M' 61 25 = v) (h2 : ∀ i, i < 16 → M' 75 i = g i) : AM (sr (wr σ 3 4 v) 8 g) M' := by
  obtain ⟨⟨a1, a2⟩, ⟨a3, a3'⟩, ⟨a4, a5⟩, ⟨h6, h7⟩, h8, -, h11, h12⟩ := h
  refine ⟨⟨fun i hi => ?_, fun i hi => ?_⟩, ⟨?_, ?_⟩, ⟨?_, fun i hi => ?_⟩, ⟨?_, fun i k hi hk => ?_⟩, fun k hk => ?_, ⟨?_, fun i hi => ?_⟩, ?_, ?_⟩
  · rw [e 64 (by omega) (by omega), e 65 (by omega) (by omega), sr_ne (by omega), sr_ne (by omega), wr_off (p := 3) (by omega), wr_off (p := 3) (by omega)]; exact a1 i hi
  · rw [e 66 (by omega) (by omega), sr_ne (by omega), wr_off (p := 3) (by omega)]; exact a2 i hi
  · rw [e1 7 (by omega), sr_ne (by omega), wr_ne (by omega)]; exact a3
  · rw [e1 10 (by omega), sr_ne (by omega), wr_ne (by omega)]; exact a3'
  · rw [e1 9 (by omega), sr_ne (by omega), wr_ne (by omega)]; exact a4
  · rw [e 68 (by omega) (by omega), sr_ne (by omega), wr_off (p := 3) (by omega)]; exact a5 i hi
  · rw [e1 1 (by omega), sr_ne (by omega), wr_ne (by omega)]; exact h6
  · rw [nA_tr] at hi
    rw [e 62 (by omega) (by omega), sr_ne (by omega), wr_off (p := 3) (by omega)]; exact h7 i k hi hk
  · rw [e 62 (by omega) (by omega), sr_ne (by omega), sr_ne (by omega), sr_ne (by omega), wr_off (p := 3) (by omega), wr_off (p := 3) (by omega), wr_off (p := 3) (by omega)]; exact h8 k hk
  · rw [h1, sr_ne (by omega), wr_at]
  · rw [h2 i hi, sr_at]
  · rw [e 63 (by omega) (by omega), sr_ne (by omega), wr_ne (by omega)]; exact h11
  · rw [e 63 (by omega) (by omega), sr_ne (by omega), wr_ne (by omega)]; exact h12
theorem WF.tr {σ : MT} {v : Int32} {g : Nat → Int32} (h : WF σ) (hv : ∃ t, t ≤ 16 ∧ v = nI t) : WF (sr (wr σ 3 4 v) 8 g) := by
  obtain ⟨h1, h2, ⟨h3, h3'⟩, h4, h5, h6, h7⟩ := h
  unfold WF
  rw [nA_tr, sr_ne (q := 0) (by omega), sr_ne (q := 1) (by omega), sr_ne (q := 3) (by omega), sr_ne (q := 5) (by omega), wr_off (q := 0) (p := 3) (by omega), wr_off (q := 1) (p := 3) (by omega), wr_off (q := 5) (p := 3) (by omega), wr_at, wr_ne (by omega), wr_ne (by omega)]
  refine ⟨h1, h2, ⟨h3, h3'⟩, hv, h5, fun j hj => ?_, fun i hi => ?_⟩
  · rw [wr_ne (by omega), sr_ne (by omega), wr_off (p := 3) (by omega)]; exact h6 j hj
  · rw [sr_ne (by omega), wr_off (p := 3) (by omega)]; exact h7 i hi
theorem cl_ask {C : CC} (hC : Clo C) {d : Nat} (hd : 10 ≤ d) {σ M : MT} {K : KT} {p what : Int32} (hA : AC σ M) (hW : WF σ) (hK : ∀ M1, AC (askR σ p what).2 M1 → Fm M M1 0 60 → K (some (.int (askR σ p what).1)) M1) : C d 112 [.ref 0, .int p, .int what] M K := by
  obtain ⟨pe, p5, pw, p0⟩ := hW.pl
  have hb := hA.2.2.2.2.1.1
  have hp := hb.1.1.trans pe
  unfold askR at hK
  refine g_X7_ask hC (fun X hX => ?_)
  have bB : ¬ (isPl (nP (σ 5)) p ∧ (0 ≤ what ∧ what ≤ 1)) → X 20 [some (.ref 0), some (.int p), some (.int what)] [] M := fun q => by
    rw [pit_neg q] at hK
    refine b_X7_ask_20 hX ?_
    conv => whnf
    exact hK M hA Fm.rf
  refine b_X7_ask_0 hX ?_
  conv => whnf
  refine ⟨by omega, c_has_8 hC hp p5 (fun i hi ei => ?_) (fun q => ?_)⟩
  rotate_left
  · conv => whnf
    exact ⟨fun _ => bB (fun z => q z.1), fun z => absurd rfl z⟩
  conv => whnf
  refine ⟨fun q => absurd q (by decide), fun _ => ?_⟩
  conv => whnf
  refine ⟨by omega, c_within hC (fun a0 b0 => ?_) (fun q => ?_)⟩
  rotate_left
  · conv => whnf
    exact ⟨fun z => absurd rfl z, fun _ => bB (fun z => q z.2)⟩
  rw [pit_pos ⟨⟨i, hi, ei⟩, a0, b0⟩] at hK
  subst ei
  rw [tN_nI (by omega)] at hK
  have hw := pw (by omega)
  obtain ⟨⟨k, k1, k2, k3⟩, -⟩ := hw.2.2.2.1 i hi
  rw [k3, tN_nI (by omega)] at hK
  obtain ⟨e1, e2, e3⟩ := hb.2.1 i hi
  conv => whnf
  refine ⟨fun _ => ?_, fun z => absurd z (by decide)⟩
  refine b_X7_ask_23 hX ?_
  conv => whnf
  refine ⟨by omega, g_X1_answer hC (fun Y hY => ?_)⟩
  refine b_X1_answer_0 hY ?_
  conv => whnf
  refine ⟨i, rfl, by omega, ?_⟩
  conv => whnf
  refine ⟨i, rfl, by omega, ?_⟩
  conv => whnf
  refine ⟨i, rfl, by omega, ?_⟩
  conv => whnf
  rw [show wr (wr M 44 1 0) 44 2 (nI i) 9 i = nI k by simp [wr]; rw [e1, k3]]
  rw [show wr (wr (wr M 44 1 0) 44 2 (nI i)) 44 3 (nI k) 11 i = σ 5 (26 + i) by simp [wr]; exact e3]
  rw [show wr (wr (wr (wr M 44 1 0) 44 2 (nI i)) 44 3 (nI k)) 44 4 (σ 5 (26 + i)) 10 i = σ 5 (31 + i) by simp [wr]; exact e2]
  generalize hM1 : wr (wr (wr (wr (wr M 44 1 0) 44 2 (nI i)) 44 3 (nI k)) 44 4 (σ 5 (26 + i))) 44 5 (σ 5 (31 + i)) = M1
  have m1 : M1 44 1 = nI 0 := by rw [← hM1]; simp [wr]; rfl
  have m2 : M1 44 2 = nI i := by rw [← hM1]; simp [wr]
  have m3 : M1 44 3 = nI k := by rw [← hM1]; simp [wr]
  have m4 : M1 44 4 = σ 5 (26 + i) := by rw [← hM1]; simp [wr]
  have m5 : M1 44 5 = σ 5 (31 + i) := by rw [← hM1]; simp [wr]
  have mf : Fm M M1 44 45 := by rw [← hM1]; exact Fm.wr (Fm.wr (Fm.wr (Fm.wr (Fm.wr Fm.rf (by decide) (by decide)) (by decide) (by decide)) (by decide) (by decide)) (by decide) (by decide)) (by decide) (by decide)
  have m45 : M1 45 = M 45 := by rw [← hM1]; funext j; simp [wr]
  have fin : ∀ l v, l = trL k what → v = trV k what (σ 5 (26 + i)) (nI i) (σ 5 (31 + i)) → K (some (.int v)) (tr 45 44 1 M1 0 l) := by
    rintro l v rfl rfl
    have ft : Fm M1 (tr 45 44 1 M1 0 (trL k what)) 44 45 := fun q hq => tr_off (by omega) (by omega)
    refine hK _ (hA.tr (mf.tr ft) (by rw [tr_n m1, Nat.zero_add]) (fun j hj => ?_)) ((mf.tr ft).mono (by decide) (by decide))
    rw [tr_a (by decide), m45]
    exact wl8_congr (fun j hj => hA.2.2.2.2.2.2 j hj) j hj
  have hk : k = 1 ∨ k = 2 ∨ k = 3 ∨ k = 4 ∨ k = 5 := by omega
  refine ⟨fun w0 => ?_, fun w0 => ?_⟩
  rotate_left
  · subst w0
    conv => whnf
    refine ⟨by omega, c_sizeBody hC (by omega) m3 (by omega) ?_⟩
    conv => whnf
    rcases hk with rfl | rfl | rfl | rfl | rfl
    · refine ⟨by omega, r11_1 (e := 0) hC (by omega) m1 (by omega) (by omega) m3 ?_⟩
      conv => whnf
      exact fin _ _ rfl (by rw [m4, m2, m5]; rfl)
    · refine ⟨by omega, r12 (e := 0) hC (by omega) m1 (by omega) (by omega) m3 ?_⟩
      conv => whnf
      exact fin _ _ rfl (by rw [m4, m2, m5]; rfl)
    · refine ⟨by omega, r11_3 (e := 0) hC (by omega) m1 (by omega) (by omega) m3 ?_⟩
      conv => whnf
      exact fin _ _ rfl (by rw [m4, m2, m5]; rfl)
    · refine ⟨by omega, r13 (e := 0) hC (by omega) m1 (by omega) (by omega) ?_⟩
      conv => whnf
      exact fin _ _ rfl (by rw [m4]; rfl)
    · refine ⟨by omega, r14 (e := 0) hC (by omega) m1 (by omega) (by omega) ?_⟩
      conv => whnf
      exact fin _ _ rfl (by rw [m4]; rfl)
  · have w1 : what = 1 := by
      obtain ⟨j, j1, j2, rfl⟩ := rngL (lo := 0) (hi := 1) (by omega) a0 b0 (by omega)
      have : j ≠ 0 := fun z => w0 (by rw [z]; rfl)
      have : j = 1 := by omega
      rw [this]; rfl
    subst w1
    refine b_X1_answer_52 hY ?_
    conv => whnf
    refine ⟨by omega, c_markBody hC (by omega) m3 (by omega) ?_⟩
    conv => whnf
    refine b_X1_answer_56 hY ?_
    conv => whnf
    rcases hk with rfl | rfl | rfl | rfl | rfl
    · refine ⟨by omega, r21 (e := 0) hC (by omega) m1 (by omega) (by omega) ?_⟩
      conv => whnf
      exact fin _ _ rfl (by rw [m2, m5]; rfl)
    · refine ⟨by omega, r24 (e := 0) hC (by omega) m1 (by omega) (by omega) ?_⟩
      conv => whnf
      exact fin _ _ rfl (by rw [m2, m5]; rfl)
    · refine ⟨by omega, r22 (e := 0) hC (by omega) m1 (by omega) (by omega) ?_⟩
      conv => whnf
      exact fin _ _ rfl (by rw [m2, m5]; rfl)
    · refine ⟨by omega, r23_4 (e := 0) hC (by omega) m1 (by omega) (by omega) m3 ?_⟩
      conv => whnf
      exact fin _ _ rfl (by rw [m2, m4]; rfl)
    · refine ⟨by omega, r23_5 (e := 0) hC (by omega) m1 (by omega) (by omega) m3 ?_⟩
      conv => whnf
      exact fin _ _ rfl (by rw [m2, m4]; rfl)
