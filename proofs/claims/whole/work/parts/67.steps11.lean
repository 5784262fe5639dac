section
/-! Step: runs. -/
def sL (f : Nat → Int64) : Nat → Int64
  | 0 => 0
  | i + 1 => sL f i + f i
theorem sL_z {f : Nat → Int64} {a : Nat} (h : ∀ k, a ≤ k → f k = 0) : ∀ c, sL f (a + c) = sL f a
  | 0 => rfl
  | c + 1 => by
    show sL f (a + c) + f (a + c) = _
    rw [h _ (by omega), Int64.add_zero]; exact sL_z h c
def nx (n : Nat) (w : Nat → Int64) (k : Nat) : Int64 := if k = 0 then sL w 14 + 2 * w 0 else if k = 1 then sL w 14 else if k ≤ n + 1 then 2 * w (k - 1) else 0
def rn (n : Nat) : Nat → Nat → Int64
  | 0 => fun k => if k = 0 then 1 else 0
  | j + 1 => nx n (rn n j)
theorem rn_z {n : Nat} : ∀ j k, n + 2 ≤ k → rn n j k = 0
  | 0, k, h => if_neg (show ¬ k = 0 by omega)
  | j + 1, k, h => by
    show nx n (rn n j) k = 0
    unfold nx
    rw [if_neg (by omega), if_neg (by omega), if_neg (by omega)]
theorem rn_s {n : Nat} (hn : n ≤ 12) (j : Nat) : sL (rn n j) (n + 2) = sL (rn n j) 14 := by
  have := sL_z (rn_z (n := n) j) (12 - n)
  rw [show n + 2 + (12 - n) = 14 by omega] at this
  exact this.symm
theorem c_sum (N : Nat) (hN : 2048 < N) {n : Nat} (hn : n ≤ 12) {w : Nat → Int64} {σ : Wd} (h : ∀ i, i ≤ n → σ.2 13 i = w (i + 1)) (KO : Int32 → Int32 → Int64 → Int32 → Int64 → Wd → Option (Int64 × Wd)) (x1 : Int32) (x3 : Int64) (x5 : Int32) : f_X9_runs_L65 N KO N x1 (nI n) x3 x5 (w 0) 0 σ = KO x1 (nI n) x3 x5 (sL w (n + 2)) σ := by
  obtain ⟨s, hs, e⟩ := lp_up (g := fun fu i s => f_X9_runs_L65 N KO fu x1 (nI n) x3 x5 s (nI i) σ) (E := fun s => KO x1 (nI n) x3 x5 s σ) (P := fun i s => s = sL w (i + 1)) (m := n + 1) (fun fu i s hi hs => by
      refine ⟨s + w (i + 1), by rw [hs]; rfl, ?_⟩
      rw [f_X9_runs_L65, if_neg (show ¬ nI n < nI i from fun z => by have := (nLt (by omega) (by omega)).mp z; omega), xldL_n (by omega) (by omega), obind, h i (by omega), nI_1]) (fun fu s hP => by
      rw [f_X9_runs_L65, if_pos (show nI n < nI (n + 1) from (nLt (by omega) (by omega)).mpr (by omega))]) (n + 1) N 0 (w 0) (by omega) (by omega) (Int64.zero_add _).symm
  rw [← hs]
  exact e
theorem c_tot (N : Nat) (hN : 2048 < N) {n : Nat} (hn : n ≤ 12) {w : Nat → Int64} {σ : Wd} (h : ∀ i, i ≤ n → σ.2 13 i = w (i + 1)) : f_X9_runs_J146 N (nI n) (w 0) σ = some (sL w (n + 2), σ) := by
  unfold f_X9_runs_J146
  obtain ⟨s, hs, e⟩ := lp_up (g := fun fu i s => f_X9_runs_L152 N (f_X9_runs_J176 N) fu (nI n) s (nI i) σ) (E := fun s => some (s, σ)) (P := fun i s => s = sL w (i + 1)) (m := n + 1) (fun fu i s hi hs => by
      refine ⟨s + w (i + 1), by rw [hs]; rfl, ?_⟩
      rw [f_X9_runs_L152, if_neg (show ¬ nI n < nI i from fun z => by have := (nLt (by omega) (by omega)).mp z; omega), xldL_n (by omega) (by omega), obind, h i (by omega), nI_1]) (fun fu s hP => by
      rw [f_X9_runs_L152, if_pos (show nI n < nI (n + 1) from (nLt (by omega) (by omega)).mpr (by omega))]; rfl) (n + 1) N 0 (w 0) (by omega) (by omega) (Int64.zero_add _).symm
  rw [← hs]
  exact e
theorem c_next (N : Nat) (hN : 2048 < N) {n j : Nat} (hn : n ≤ 12) {σ : Wd} (h : ∀ i, i ≤ n → σ.2 13 i = rn n j (i + 1)) (KB : Int32 → Int32 → Int64 → Int32 → Wd → Option (Int64 × Wd)) (KO : Int32 → Int64 → Wd → Option (Int64 × Wd)) (x1 x5 : Int32) : ∃ τ, Fr [13] σ τ ∧ (∀ i, i ≤ n → τ.2 13 i = rn n (j + 1) (i + 1)) ∧ f_X9_runs_J89 N KB KO x1 (nI n) (rn n j 0) x5 (sL (rn n j) (n + 2)) σ = KB x1 (nI n) (rn n (j + 1) 0) (x5 + 1) τ := by
  unfold f_X9_runs_J89
  obtain ⟨s, ⟨-, F, h1, h2⟩, e⟩ := lp_dn (lo := 0) (g := fun fu i s => f_X9_runs_L92 N (f_X9_runs_J123 N KB KO) fu x1 (nI n) (rn n j 0) x5 (sL (rn n j) (n + 2)) (nI i) s) (E := fun s => f_X9_runs_J123 N KB KO x1 (nI n) (rn n j 0) x5 (sL (rn n j) (n + 2)) s) (P := fun i s => i ≤ n ∧ Fr [13] σ s ∧ (∀ k, i < k → k ≤ n → s.2 13 k = 2 * rn n j k) ∧ ∀ k, k ≤ i → s.2 13 k = rn n j (k + 1)) (fun fu i s _ ⟨hi, F, h1, h2⟩ => by
      refine ⟨sG s 13 (i + 1) (2 * rn n j (i + 1)), ⟨by omega, F.G (by decide), fun k hk hkn => ?_, fun k hk => ?_⟩, ?_⟩
      · rw [sG_2, if_pos rfl]
        by_cases hki : k = i + 1
        · rw [if_pos hki, hki]
        · rw [if_neg hki]; exact h1 k (by omega) hkn
      · rw [sG_2, if_pos rfl, if_neg (by omega)]; exact h2 k (by omega)
      · rw [f_X9_runs_L92, if_neg (show ¬ nI (i + 1) ≤ 0 from fun z => by have := (nLe (b := 0) (by omega) (by omega)).mp z; omega), nI_pred, xldL_n (by omega) (by omega), obind, h2 i (by omega), xstL_n (by omega) (by omega), obind, show nI (i + 1) + (-1) = nI (i + 1) - 1 from (Int32.sub_eq_add_neg _ _).symm, nI_pred]) (fun fu s hP => by
      rw [f_X9_runs_L92, if_pos (show nI 0 ≤ 0 by decide)]) n N n σ (by omega) (by omega) ⟨Nat.le_refl _, Fr.rf _ _, fun k hk hkn => absurd hkn (by omega), h⟩
  refine ⟨sG s 13 0 (sL (rn n j) (n + 2)), F.G (by decide), fun i hi => ?_, e.trans ?_⟩
  · rw [sG_2, if_pos rfl]
    by_cases hi0 : i = 0
    · rw [if_pos hi0, hi0, rn_s hn]; rfl
    · rw [if_neg hi0, h1 i (by omega) hi]
      show _ = nx n (rn n j) (i + 1)
      unfold nx
      rw [if_neg (by omega), if_neg (by omega), if_pos (by omega), Nat.add_sub_cancel]
  · unfold f_X9_runs_J123
    rw [show xstL s 13 13 0 (sL (rn n j) (n + 2)) = some (sG s 13 0 (sL (rn n j) (n + 2))) from xstL_n (i := 0) (by omega) (by omega), obind, rn_s hn]
    rfl
theorem c_runs (N : Nat) (hN : 2048 < N) {w n : Nat} (hw : w ≤ 12) (hn : n ≤ 12) (σ : Wd) : ∃ τ, Fr [13] σ τ ∧ f_X9_runs_L30 N (f_X9_runs_J50 N) N (nI w) (nI n) 1 0 σ = some (sL (rn n w) 14, τ) := by
  obtain ⟨s, ⟨F, h⟩, e⟩ := lp_up (g := fun fu i s => f_X9_runs_L30 N (f_X9_runs_J50 N) fu (nI w) (nI n) 1 (nI i) s) (E := fun s => f_X9_runs_J50 N (nI w) (nI n) 1 s) (P := fun i s => Fr [13] σ s ∧ ∀ k, k < i → s.2 13 k = 0) (m := n + 1) (fun fu i s hi ⟨F, h⟩ => by
      refine ⟨sG s 13 i 0, ⟨F.G (by decide), fun k hk => ?_⟩, ?_⟩
      · rw [sG_2, if_pos rfl]
        by_cases hki : k = i
        · rw [if_pos hki]
        · rw [if_neg hki]; exact h k (by omega)
      · rw [f_X9_runs_L30, if_neg (show ¬ nI n < nI i from fun z => by have := (nLt (by omega) (by omega)).mp z; omega), xstL_n (by omega) (by omega), obind, nI_1]) (fun fu s hP => by
      rw [f_X9_runs_L30, if_pos (show nI n < nI (n + 1) from (nLt (by omega) (by omega)).mpr (by omega))]) (n + 1) N 0 σ (by omega) (by omega) ⟨Fr.rf _ _, fun k hk => absurd hk (Nat.not_lt_zero k)⟩
  obtain ⟨τ, ⟨F2, h2⟩, e2⟩ := lp_up (g := fun fu i s => f_X9_runs_L53 N (f_X9_runs_J146 N) fu (nI w) (nI n) (rn n i 0) (nI i) s) (E := fun s => some (sL (rn n w) 14, s)) (P := fun i s => Fr [13] σ s ∧ ∀ k, k ≤ n → s.2 13 k = rn n i (k + 1)) (m := w) (fun fu i s hi ⟨F, h⟩ => by
      obtain ⟨τ, F2, h2, e2⟩ := c_next N hN hn h (f_X9_runs_L53 N (f_X9_runs_J146 N) fu) (f_X9_runs_J146 N) (nI w) (nI i)
      refine ⟨τ, ⟨F.tr F2, h2⟩, ?_⟩
      rw [f_X9_runs_L53, if_neg (show ¬ nI w ≤ nI i from fun z => by have := (nLe (by omega) (by omega)).mp z; omega), c_sum N hN hn h, e2, nI_1]) (fun fu s ⟨F, h⟩ => by
      rw [f_X9_runs_L53, if_pos (show nI w ≤ nI w from (nLe (by omega) (by omega)).mpr (Nat.le_refl _)), c_tot N hN hn h, rn_s hn]) w N 0 s (by omega) (by omega) ⟨F, fun k hk => h k (by omega)⟩
  exact ⟨τ, F2, e.trans e2⟩
theorem m_next (N : Nat) (hN : 2048 < N) {n j : Nat} (hn : n ≤ 12) {σ : Wd} (h : ∀ i, i < 14 → σ.2 65 i = rn n j i) (KB : Int32 → Int32 → Int32 → Wd → Option (Int64 × Wd)) (KO : Wd → Option (Int64 × Wd)) (x1 x3 : Int32) : ∃ τ, FrM [65, 66] [] σ τ ∧ (∀ i, i < 14 → τ.2 65 i = rn n (j + 1) i) ∧ f_X10_runs_L70 N (f_X10_runs_J133 N KB KO) N x1 (nI n) x3 0 0 σ = KB x1 (nI n) (x3 + 1) τ := by
  obtain ⟨⟨q, s⟩, ⟨hq, F, h1⟩, e⟩ := lp_up (S := Int64 × Wd) (g := fun fu i s => f_X10_runs_L70 N (f_X10_runs_J133 N KB KO) fu x1 (nI n) x3 s.1 (nI i) s.2) (E := fun s => f_X10_runs_J133 N KB KO x1 (nI n) x3 s.1 s.2) (P := fun i s => s.1 = sL (rn n j) i ∧ FrM [66] [] σ s.2 ∧ ∀ k, k < i → s.2.2 66 k = if k ≤ 1 then 0 else if k ≤ n + 1 then 2 * rn n j (k - 1) else 0) (m := 14) (fun fu i s hi ⟨hq, F, h1⟩ => by
      refine ⟨(s.1 + rn n j i, sG s.2 66 i (if i ≤ 1 then 0 else if i ≤ n + 1 then 2 * rn n j (i - 1) else 0)), ⟨by rw [hq]; rfl, F.G (by decide), fun k hk => ?_⟩, ?_⟩
      · rw [sG_2, if_pos rfl]
        by_cases hki : k = i
        · rw [if_pos hki, hki]
        · rw [if_neg hki]; exact h1 k (by omega)
      · rw [f_X10_runs_L70, if_neg (show ¬ (13 : Int32) < nI i from fun z => by have := (nLt (a := 13) (by omega) (by omega)).mp z; omega), xldL_n (by omega) (by omega), obind, F.l (by decide), h i hi, nI_1, nI_1]
        by_cases hi1 : i ≤ 1
        · rw [if_pos (show nI i ≤ 1 from (nLe (b := 1) (by omega) (by omega)).mpr hi1), if_pos hi1, xstL_n (by omega) (by omega), obind]
        · rw [if_neg (show ¬ nI i ≤ 1 from fun z => hi1 ((nLe (b := 1) (by omega) (by omega)).mp z)), if_neg hi1]
          by_cases hi2 : i ≤ n + 1
          · rw [if_neg (show ¬ nI (n + 1) < nI i from fun z => by have := (nLt (by omega) (by omega)).mp z; omega), if_pos hi2]
            obtain ⟨i, rfl⟩ : ∃ b, i = b + 1 := ⟨i - 1, by omega⟩
            rw [nI_pred, xldL_n (by omega) (by omega), obind, F.l (by decide), h i (by omega), xstL_n (by omega) (by omega), obind, Nat.add_sub_cancel]
          · rw [if_pos (show nI (n + 1) < nI i from (nLt (by omega) (by omega)).mpr (by omega)), if_neg hi2, xstL_n (by omega) (by omega), obind]) (fun fu s hP => by
      rw [f_X10_runs_L70, if_pos (show (13 : Int32) < nI 14 by decide)]) 14 N 0 (0, σ) (by omega) (by omega) ⟨rfl, FrM.rf _ _ _, fun k hk => absurd hk (Nat.not_lt_zero k)⟩
  dsimp only at hq F h1 e
  have hnx : ∀ k, k < 14 → (sG (sG s 66 0 (2 * rn n j 0 + q)) 66 1 q).2 66 k = rn n (j + 1) k := fun k hk => by
    rw [sG_2, if_pos rfl, sG_2, if_pos rfl]
    show _ = nx n (rn n j) k
    unfold nx
    by_cases h0 : k = 0
    · rw [if_neg (by omega), if_pos h0, if_pos h0, hq, Int64.add_comm]
    · rw [if_neg h0, if_neg h0]
      by_cases h11 : k = 1
      · rw [if_pos h11, if_pos h11, hq]
      · rw [if_neg h11, if_neg h11, h1 k hk, if_neg (by omega)]
  have F2 : FrM [65, 66] [] σ (sG (sG s 66 0 (2 * rn n j 0 + q)) 66 1 q) := ((F.mo (by decide) (by decide)).G (by decide)).G (by decide)
  obtain ⟨τ, ⟨F3, h3⟩, e3⟩ := lp_up (g := fun fu i s => f_X10_runs_L163 N (f_X10_runs_J190 N KB KO) fu x1 (nI n) x3 (nI i) s) (E := fun s => f_X10_runs_J190 N KB KO x1 (nI n) x3 s) (P := fun i t => FrM [65] [] (sG (sG s 66 0 (2 * rn n j 0 + q)) 66 1 q) t ∧ ∀ k, k < i → t.2 65 k = rn n (j + 1) k) (m := 14) (fun fu i t hi ⟨F, h⟩ => by
      refine ⟨sG t 65 i (rn n (j + 1) i), ⟨F.G (by decide), fun k hk => ?_⟩, ?_⟩
      · rw [sG_2, if_pos rfl]
        by_cases hki : k = i
        · rw [if_pos hki, hki]
        · rw [if_neg hki]; exact h k (by omega)
      · rw [f_X10_runs_L163, if_neg (show ¬ (13 : Int32) < nI i from fun z => by have := (nLt (a := 13) (by omega) (by omega)).mp z; omega), xldL_n (by omega) (by omega), obind, F.l (by decide), hnx i hi, xstL_n (by omega) (by omega), obind, nI_1]) (fun fu t hP => by
      rw [f_X10_runs_L163, if_pos (show (13 : Int32) < nI 14 by decide)]) 14 N 0 (sG (sG s 66 0 (2 * rn n j 0 + q)) 66 1 q) (by omega) (by omega) ⟨FrM.rf _ _ _, fun k hk => absurd hk (Nat.not_lt_zero k)⟩
  refine ⟨τ, F2.tr (F3.mo (by decide) (by decide)), h3, e.trans ?_⟩
  unfold f_X10_runs_J133
  rw [show xldL s 65 14 0 = some (s.2 65 0) from xldL_n (i := 0) (by omega) (by omega), obind, F.l (by decide), h 0 (by omega), show xstL s 66 14 0 (2 * rn n j 0 + q) = some (sG s 66 0 (2 * rn n j 0 + q)) from xstL_n (i := 0) (by omega) (by omega), obind, show xstL (sG s 66 0 (2 * rn n j 0 + q)) 66 14 1 q = some (sG (sG s 66 0 (2 * rn n j 0 + q)) 66 1 q) from xstL_n (i := 1) (by omega) (by omega), obind]
  exact e3
theorem m_runs (N : Nat) (hN : 2048 < N) {w n : Nat} (hw : w ≤ 12) (hn : n ≤ 12) (σ : Wd) : ∃ τ, FrM [65, 66] [] σ τ ∧ f_X10_runs_L30 N (f_X10_runs_J57 N) N (nI w) (nI n) 0 σ = some (sL (rn n w) 14, τ) := by
  obtain ⟨s, ⟨F, h⟩, e⟩ := lp_up (g := fun fu i s => f_X10_runs_L30 N (f_X10_runs_J57 N) fu (nI w) (nI n) (nI i) s) (E := fun s => f_X10_runs_J57 N (nI w) (nI n) s) (P := fun i s => FrM [65, 66] [] σ s ∧ ∀ k, k < i → s.2 65 k = rn n 0 k) (m := 14) (fun fu i s hi ⟨F, h⟩ => by
      refine ⟨sG s 65 i (rn n 0 i), ⟨F.G (by decide), fun k hk => ?_⟩, ?_⟩
      · rw [sG_2, if_pos rfl]
        by_cases hki : k = i
        · rw [if_pos hki, hki]
        · rw [if_neg hki]; exact h k (by omega)
      · rw [f_X10_runs_L30, if_neg (show ¬ (13 : Int32) < nI i from fun z => by have := (nLt (a := 13) (by omega) (by omega)).mp z; omega), nI_1]
        by_cases h0 : i = 0
        · rw [if_pos (show nI i = 0 by rw [h0]; rfl), xstL_n (by omega) (by omega), obind, h0]; rfl
        · rw [if_neg (show ¬ nI i = 0 from neN (b := 0) (by omega) (by omega) h0), xstL_n (by omega) (by omega), obind, show rn n 0 i = 0 from if_neg h0]) (fun fu s hP => by
      rw [f_X10_runs_L30, if_pos (show (13 : Int32) < nI 14 by decide)]) 14 N 0 σ (by omega) (by omega) ⟨FrM.rf _ _ _, fun k hk => absurd hk (Nat.not_lt_zero k)⟩
  obtain ⟨τ, ⟨F2, h2⟩, e2⟩ := lp_up (g := fun fu i s => f_X10_runs_L59 N (f_X10_runs_J196 N) fu (nI w) (nI n) (nI i) s) (E := fun s => f_X10_runs_J196 N s) (P := fun i s => FrM [65, 66] [] σ s ∧ ∀ k, k < 14 → s.2 65 k = rn n i k) (m := w) (fun fu i s hi ⟨F, h⟩ => by
      obtain ⟨τ, F2, h2, e2⟩ := m_next N hN hn h (f_X10_runs_L59 N (f_X10_runs_J196 N) fu) (f_X10_runs_J196 N) (nI w) (nI i)
      refine ⟨τ, ⟨F.tr F2, h2⟩, ?_⟩
      rw [f_X10_runs_L59, if_neg (show ¬ nI w ≤ nI i from fun z => by have := (nLe (by omega) (by omega)).mp z; omega), e2, nI_1]) (fun fu s hP => by
      rw [f_X10_runs_L59, if_pos (show nI w ≤ nI w from (nLe (by omega) (by omega)).mpr (Nat.le_refl _))]) w N 0 s (by omega) (by omega) ⟨F, h⟩
  refine ⟨τ, F2, e.trans (e2.trans ?_)⟩
  unfold f_X10_runs_J196
  obtain ⟨s, hs, e⟩ := lp_up (g := fun fu i s => f_X10_runs_L201 N (f_X10_runs_J224 N) fu s (nI i) τ) (E := fun s => some (s, τ)) (P := fun i s => s = sL (rn n w) i) (m := 14) (fun fu i s hi hs => by
      refine ⟨s + rn n w i, by rw [hs]; rfl, ?_⟩
      rw [f_X10_runs_L201, if_neg (show ¬ (13 : Int32) < nI i from fun z => by have := (nLt (a := 13) (by omega) (by omega)).mp z; omega), xldL_n (by omega) (by omega), obind, h2 i hi, nI_1]) (fun fu s hP => by
      rw [f_X10_runs_L201, if_pos (show (13 : Int32) < nI 14 by decide)]; rfl) 14 N 0 0 (by omega) (by omega) rfl
  rw [← hs]
  exact e
theorem st_runs (N : Nat) (hN : 2048 < N) {σ : Wd} (R : SRel σ) (x y : Int32) : SStep (f_X9_runs N x y) (f_X10_runs N x y) σ := by
  obtain ⟨T, P, K, d, ar, sh, hW, hC, hX, hM⟩ := id R
  rcases rng x 1 12 (by omega) (by omega) with ⟨w, hw1, hw2, rfl⟩ | ⟨h1, h2⟩
  · have q1 : (1 : Int32) ≤ nI w ∧ nI w ≤ 12 := ⟨(nLe (a := 1) (by omega) (by omega)).mpr hw1, (nLe (b := 12) (by omega) (by omega)).mpr hw2⟩
    rcases rng y 0 12 (by omega) (by omega) with ⟨n, -, hn, rfl⟩ | ⟨h1, h2⟩
    · have q2 : (0 : Int32) ≤ nI n ∧ nI n ≤ 12 := ⟨nI_pos' (by omega), (nLe (b := 12) (by omega) (by omega)).mpr hn⟩
      obtain ⟨τ, F, e⟩ := c_runs N hN hw2 hn σ
      refine SStep.mk hM hW (r := sL (rn n w) 14) (σ1 := τ) ?_ (F.x (by decide)) (hC.fr F (by decide)) (hX.fr F (by decide) (by decide) (by decide) (by decide)) (fun τ M => ?_)
      · unfold f_X9_runs
        rw [if_neg (nGt q1.1), if_neg (nGt q1.2), if_neg (nGt q2.1), if_pos q2.2]
        exact e
      · obtain ⟨τ2, F2, e2⟩ := m_runs N hN hw2 hn τ
        refine ⟨τ2, ?_, F2.y (by decide), M.fr F2 (by decide) (by decide)⟩
        unfold f_X10_runs
        rw [in_y N (lo := 1) (hi := 12) (by decide) (by decide) q1, obind]
        dsimp only
        rw [if_neg (show ¬ (1 : Int32) = 0 by decide), in_y N (lo := 0) (hi := 12) (by decide) (by decide) q2, obind]
        dsimp only
        rw [if_neg (show ¬ (1 : Int32) = 0 by decide)]
        exact e2
    · refine SStep.ref R (r := -9223372036854775808) ?_ ?_
      · unfold f_X9_runs
        rw [if_neg (nGt q1.1), if_neg (nGt q1.2)]
        by_cases h3 : y < 0
        · rw [if_pos h3]
        · rw [if_neg h3, if_neg (show ¬ y ≤ 12 from nGe (h2.resolve_left h3))]
      · unfold f_X10_runs
        rw [in_y N (lo := 1) (hi := 12) (by decide) (by decide) q1, obind]
        dsimp only
        rw [if_neg (show ¬ (1 : Int32) = 0 by decide), in_n N (lo := 0) (hi := 12) (by decide) (by decide) h1, obind]; rfl
  · refine SStep.ref R (r := -9223372036854775808) ?_ ?_
    · unfold f_X9_runs
      by_cases h3 : x < 1
      · rw [if_pos h3]
      · rw [if_neg h3, if_pos (show (12 : Int32) < x from h2.resolve_left h3)]
    · unfold f_X10_runs
      rw [in_n N (lo := 1) (hi := 12) (by decide) (by decide) h1, obind]; rfl
end
