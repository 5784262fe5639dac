/-! The class's net in memory. -/
def lfC (k : Nat) : Nat := if k = 0 then 25 else if k = 1 then 26 else k - 2
theorem lfC_ok : LF lfC := by
  refine ⟨fun k hk => ?_, fun j k hj hk he => ?_⟩
  · unfold lfC; split
    · omega
    · split <;> omega
  · unfold lfC at he
    split at he <;> split at he <;> (try split at he) <;> (try split at he) <;> omega
theorem lfC_inv {t : Nat} (h : t < 27) : ∃ k, k < 27 ∧ lfC k = t := by
  by_cases h1 : t = 25
  · exact ⟨0, by omega, by rw [h1]; rfl⟩
  · by_cases h2 : t = 26
    · exact ⟨1, by omega, by rw [h2]; rfl⟩
    · refine ⟨t + 2, by omega, ?_⟩
      unfold lfC
      rw [if_neg (by omega), if_neg (by omega)]; omega
/-- gates, and for each upper part the newest gate of it and the one before -/
def CNet (σ : Wd) (n : Nat) (kd l r nw bf den : Nat → Nat) : Prop :=
  NT lfC n kd l r den ∧ n ≤ 512 ∧ σ.1 4 5 = nI n ∧
  (∀ k, 27 ≤ k → k < n → σ.1 18 k = nI (kd k) ∧ σ.1 19 k = nI (l k) ∧ σ.1 20 k = nI (r k) ∧ l k ≤ r k ∧ σ.1 24 k = nI (bf k) ∧ (kd k = 0 → l k = r k)) ∧
  (∀ h, h < n → σ.1 23 h = nI (nw h)) ∧
  (∀ h, h < n → (nw h < 27 ∧ ∀ k, 27 ≤ k → k < n → r k ≠ h) ∨ (27 ≤ nw h ∧ nw h < n ∧ r (nw h) = h ∧ ∀ k, 27 ≤ k → k < n → r k = h → k ≤ nw h)) ∧
  (∀ g, 27 ≤ g → g < n → (bf g < 27 ∧ ∀ k, 27 ≤ k → k < g → r k ≠ r g) ∨ (27 ≤ bf g ∧ bf g < g ∧ r (bf g) = r g ∧ ∀ k, 27 ≤ k → k < g → r k = r g → k ≤ bf g))
def CN (σ : Wd) (n : Nat) (den : Nat → Nat) : Prop := ∃ kd l r nw bf, CNet σ n kd l r nw bf den
/-- only the net's own rows, and its size, may differ -/
def FrN (σ τ : Wd) : Prop := τ.2 = σ.2 ∧ ∀ a b, a ≠ 18 → a ≠ 19 → a ≠ 20 → a ≠ 23 → a ≠ 24 → ¬ (a = 4 ∧ b = 5) → τ.1 a b = σ.1 a b
theorem FrN.rf (σ : Wd) : FrN σ σ := ⟨rfl, fun _ _ _ _ _ _ _ _ => rfl⟩
theorem FrN.tr {σ τ υ : Wd} (h : FrN σ τ) (h2 : FrN τ υ) : FrN σ υ := ⟨h2.1.trans h.1, fun a b h1 h3 h4 h5 h6 h7 => (h2.2 a b h1 h3 h4 h5 h6 h7).trans (h.2 a b h1 h3 h4 h5 h6 h7)⟩
/-- what an operation on the net gives: a gate of that term, at most m more gates -/
def NOp (σ : Wd) (n : Nat) (den : Nat → Nat) (m t : Nat) (o : Option (Int32 × Wd)) : Prop :=
  ∃ (z : Nat) (τ : Wd) (n' : Nat) (den' : Nat → Nat), o = some (nI z, τ) ∧ CN τ n' den' ∧ n ≤ n' ∧ n' ≤ n + m ∧ (∀ k, k < n → den' k = den k) ∧ z < n' ∧ den' z = t ∧ FrN σ τ
theorem NT.den_ge {lf : Nat → Nat} {n : Nat} {kd l r den : Nat → Nat} (h : NT lf n kd l r den) (hlf : LF lf) {k : Nat} (hk : k < n) : 27 ≤ den k ↔ 27 ≤ k := by
  by_cases h1 : k < 27
  · rw [h.2.1 k h1]
    have := hlf.1 k h1
    omega
  · obtain ⟨-, -, -, a⟩ := h.2.2.1 k (by omega) hk
    rw [a]
    have := mkT_ge (kd k) (den (l k)) (den (r k))
    omega
theorem made_loop (N : Nat) (KO : Int32 → Int32 → Int32 → Wd → Option (Int32 × Wd)) {σ : Wd} {n : Nat} {kd l r nw bf den : Nat → Nat} (H : CNet σ n kd l r nw bf den) {s lo hi : Nat} (hs : s < 4) (hlo : lo < n) :
    ∀ (fuel g st : Nat), g < fuel → g + st ≤ 511 → (27 ≤ g → g < n ∧ r g = hi) → (∀ k, 27 ≤ k → k < n → r k = hi → l k = lo → kd k = s → k ≤ g) →
      (∃ k, 27 ≤ k ∧ k < n ∧ r k = hi ∧ l k = lo ∧ kd k = s ∧ f_X2_made_L65 N KO fuel (nI s) (nI lo) (nI hi) (nI g) (nI st) σ = some (nI k, σ)) ∨
      ((∀ k, 27 ≤ k → k < n → r k = hi → l k = lo → kd k = s → False) ∧ f_X2_made_L65 N KO fuel (nI s) (nI lo) (nI hi) (nI g) (nI st) σ = KO (nI s) (nI lo) (nI hi) σ)
  | 0, g, st, h1, _, _, _ => absurd h1 (Nat.not_lt_zero g)
  | fuel + 1, g, st, h1, h2, h3, h4 => by
    obtain ⟨hN, hn, hsz, hg, hnw, hc1, hc2⟩ := id H
    unfold f_X2_made_L65
    by_cases hg27 : g < 27
    · right
      refine ⟨fun k k1 k2 k3 k4 k5 => ?_, if_pos (show nI g < 27 from (nLt (b := 27) (by omega) (by omega)).mpr hg27)⟩
      have := h4 k k1 k2 k3 k4 k5
      omega
    · obtain ⟨g1, g2⟩ := h3 (by omega)
      obtain ⟨e1, e2, e3, e4, e5, e6⟩ := hg g (by omega) g1
      obtain ⟨kdlt, llt, rlt, -⟩ := hN.2.2.1 g (by omega) g1
      rw [if_neg (show ¬ nI g < 27 from fun z => hg27 ((nLt (b := 27) (by omega) (by omega)).mp z)), if_neg (show ¬ 512 ≤ nI st from fun z => absurd ((nLe (a := 512) (by omega) (by omega)).mp z) (by omega)), xld_n (by omega) (by omega), obind, e2]
      have hrec : (∀ k, 27 ≤ k → k < n → r k = hi → l k = lo → kd k = s → k ≤ g ∧ k ≠ g) → (∃ k, 27 ≤ k ∧ k < n ∧ r k = hi ∧ l k = lo ∧ kd k = s ∧ ((xld σ 24 512 (nI g)).bind fun v => f_X2_made_L65 N KO fuel (nI s) (nI lo) (nI hi) v (nI st + 1) σ) = some (nI k, σ)) ∨
          ((∀ k, 27 ≤ k → k < n → r k = hi → l k = lo → kd k = s → False) ∧ ((xld σ 24 512 (nI g)).bind fun v => f_X2_made_L65 N KO fuel (nI s) (nI lo) (nI hi) v (nI st + 1) σ) = KO (nI s) (nI lo) (nI hi) σ) := by
        intro hne
        rw [xld_n (by omega) (by omega), obind, e5, nI_1]
        rcases hc2 g (by omega) g1 with ⟨b1, b2⟩ | ⟨b1, b2, b3, b4⟩
        · refine made_loop N KO H hs hlo fuel (bf g) (st + 1) (by omega) (by omega) (fun z => by omega) (fun k k1 k2 k3 k4 k5 => ?_)
          obtain ⟨q1, q2⟩ := hne k k1 k2 k3 k4 k5
          exact absurd (k3.trans g2.symm) (b2 k k1 (by omega))
        · refine made_loop N KO H hs hlo fuel (bf g) (st + 1) (by omega) (by omega) (fun _ => ⟨by omega, b3.trans g2⟩) (fun k k1 k2 k3 k4 k5 => ?_)
          obtain ⟨q1, q2⟩ := hne k k1 k2 k3 k4 k5
          exact b4 k k1 (by omega) (k3.trans g2.symm)
      by_cases hl : l g = lo
      · rw [if_pos (by rw [hl]), xld_n (by omega) (by omega), obind, e1]
        by_cases hk : kd g = s
        · rw [if_pos (by rw [hk])]
          exact Or.inl ⟨g, by omega, g1, g2, hl, hk, rfl⟩
        · rw [if_neg (fun z => hk ((nEq (by omega) (by omega)).mp z))]
          refine hrec (fun k k1 k2 k3 k4 k5 => ⟨h4 k k1 k2 k3 k4 k5, fun e => hk (by rw [← e]; exact k5)⟩)
      · rw [if_neg (fun z => hl ((nEq (by omega) (by omega)).mp z))]
        exact hrec (fun k k1 k2 k3 k4 k5 => ⟨h4 k k1 k2 k3 k4 k5, fun e => hl (by rw [← e]; exact k4)⟩)
/-- a new gate -/
theorem made_new (N : Nat) {σ : Wd} {n : Nat} {kd l r nw bf den : Nat → Nat} (H : CNet σ n kd l r nw bf den) {s lo hi : Nat} (hs : s < 4) (hlh : lo ≤ hi) (hhi : hi < n) (hroom : n < 512) (h0 : s = 0 → lo = hi) (hno : ∀ k, 27 ≤ k → k < n → r k = hi → l k = lo → kd k = s → False) :
    ∃ τ, f_X2_made_J121 N (nI s) (nI lo) (nI hi) σ = some (nI n, τ) ∧ CN τ (n + 1) (fun k => if k = n then mkT s (den lo) (den hi) else den k) ∧ FrN σ τ := by
  obtain ⟨hN, hn, hsz, hg, hnw, hc1, hc2⟩ := id H
  unfold f_X2_made_J121
  rw [hsz, if_pos (show nI n < 512 from (nLt (b := 512) (by omega) (by omega)).mpr hroom)]
  simp (disch := omega) only [xst_n, xld_n, obind]
  refine ⟨_, rfl, ⟨fun k => if k = n then s else kd k, fun k => if k = n then lo else l k, fun k => if k = n then hi else r k, fun h => if h = hi then n else if h = n then 0 else nw h, fun g => if g = n then nw hi else bf g, ?_, by omega, ?_, ?_, ?_, ?_, ?_⟩, ?_⟩
  · have h27 := hN.1
    refine ⟨by omega, fun k hk => ?_, fun k k1 k2 => ?_, fun j k hj hk he => ?_⟩
    · show (if k = n then mkT s (den lo) (den hi) else den k) = lfC k
      rw [if_neg (by omega)]; exact hN.2.1 k hk
    · by_cases hkn : k = n
      · subst hkn
        simp only [if_true]
        rw [if_neg (by omega), if_neg (by omega)]
        exact ⟨hs, by omega, hhi, rfl⟩
      · obtain ⟨a1, a2, a3, a4⟩ := hN.2.2.1 k k1 (by omega)
        simp only [if_neg hkn]
        rw [if_neg (by omega), if_neg (by omega)]
        exact ⟨a1, a2, a3, a4⟩
    · have new : ∀ i, i < n → den i ≠ mkT s (den lo) (den hi) := by
        intro i hi2 he2
        have hge : 27 ≤ i := (hN.den_ge lfC_ok hi2).mp (by rw [he2]; exact mkT_ge _ _ _)
        obtain ⟨a1, a2, a3, a4⟩ := hN.2.2.1 i hge hi2
        obtain ⟨-, -, -, e4, -, -⟩ := hg i hge hi2
        obtain ⟨b1, b2⟩ := mkT_inj a1 hs (a4.symm.trans he2)
        rcases b2 with ⟨b2, b3⟩ | ⟨b2, b3⟩
        · exact hno i hge hi2 (hN.2.2.2 _ _ (by omega) hhi b3) (hN.2.2.2 _ _ (by omega) (by omega) b2) b1
        · have c1 := hN.2.2.2 _ _ (by omega) hhi b2
          have c2 := hN.2.2.2 _ _ (by omega) (by omega) b3
          exact hno i hge hi2 (by omega) (by omega) b1
      by_cases hj2 : j = n
      · by_cases hk2 : k = n
        · omega
        · dsimp only at he
          rw [if_pos hj2, if_neg hk2] at he
          exact absurd he.symm (new k (by omega))
      · by_cases hk2 : k = n
        · dsimp only at he
          rw [if_neg hj2, if_pos hk2] at he
          exact absurd he (new j (by omega))
        · dsimp only at he
          rw [if_neg hj2, if_neg hk2] at he
          exact hN.2.2.2 j k (by omega) (by omega) he
  · simp [sF_1, nI_1]
  · intro k k1 k2
    by_cases hkn : k = n
    · subst hkn
      have hne : hi ≠ k := by omega
      simp [sF_1, hnw hi hhi, hlh, hne]
      exact h0
    · obtain ⟨e1, e2, e3, e4, e5, e6⟩ := hg k k1 (by omega)
      simp [sF_1, hkn, e1, e2, e3, e4, e5]
      exact e6
  · intro h hh
    by_cases h1 : h = hi
    · subst h1; simp [sF_1]
    · by_cases h2 : h = n
      · subst h2; simp [sF_1, h1, litI]
      · simp [sF_1, h1, h2, hnw h (by omega)]
  · intro h hh
    by_cases h1 : h = hi
    · subst h1
      right
      simp only [if_true]
      refine ⟨by have := hN.1; omega, by omega, trivial, fun k k1 k2 k3 => by omega⟩
    · simp only [if_neg h1]
      by_cases h2 : h = n
      · subst h2
        left
        simp only [if_true]
        refine ⟨by omega, fun k k1 k2 => ?_⟩
        by_cases hkn : k = h
        · subst hkn; simp only [if_true]; omega
        · rw [if_neg hkn]
          have := (hN.2.2.1 k k1 (by omega)).2.2.1
          omega
      · simp only [if_neg h2]
        rcases hc1 h (by omega) with ⟨b1, b2⟩ | ⟨b1, b2, b3, b4⟩
        · left
          refine ⟨b1, fun k k1 k2 => ?_⟩
          by_cases hkn : k = n
          · rw [if_pos hkn]; omega
          · rw [if_neg hkn]; exact b2 k k1 (by omega)
        · right
          refine ⟨b1, by omega, by rw [if_neg (by omega)]; exact b3, fun k k1 k2 k3 => ?_⟩
          by_cases hkn : k = n
          · rw [if_pos hkn] at k3; omega
          · rw [if_neg hkn] at k3; exact b4 k k1 (by omega) k3
  · intro g g1 g2
    by_cases hgn : g = n
    · subst hgn
      simp only [if_true]
      rcases hc1 hi hhi with ⟨b1, b2⟩ | ⟨b1, b2, b3, b4⟩
      · left
        refine ⟨b1, fun k k1 k2 => ?_⟩
        rw [if_neg (by omega)]
        exact b2 k k1 k2
      · right
        refine ⟨b1, b2, by rw [if_neg (by omega)]; exact b3, fun k k1 k2 k3 => ?_⟩
        rw [if_neg (by omega)] at k3
        exact b4 k k1 k2 k3
    · simp only [if_neg hgn]
      rcases hc2 g g1 (by omega) with ⟨b1, b2⟩ | ⟨b1, b2, b3, b4⟩
      · left
        refine ⟨b1, fun k k1 k2 => ?_⟩
        rw [if_neg (by omega)]
        exact b2 k k1 k2
      · right
        refine ⟨b1, b2, by rw [if_neg (by omega)]; exact b3, fun k k1 k2 k3 => ?_⟩
        rw [if_neg (by omega)] at k3
        exact b4 k k1 k2 k3
  · refine ⟨rfl, fun a b h1 h2 h3 h4 h5 h6 => ?_⟩
    simp only [sF_1, if_neg h1, if_neg h2, if_neg h3, if_neg h4, if_neg h5]
    by_cases ha : a = 4
    · rw [if_pos ha, if_neg (fun hb => h6 ⟨ha, hb⟩)]
    · rw [if_neg ha]
