/-! Blocks laid by the class. -/
def EX (n : Nat) (den : Nat → Nat) (τ : Wd) (n' : Nat) (den' : Nat → Nat) (m : Nat) : Prop := CN τ n' den' ∧ n ≤ n' ∧ n' ≤ n + m ∧ ∀ k, k < n → den' k = den k
theorem EX.rf {n : Nat} {den : Nat → Nat} {σ : Wd} (m : Nat) (H : CN σ n den) : EX n den σ n den m := ⟨H, Nat.le_refl _, Nat.le_add_right _ _, fun _ _ => rfl⟩
theorem EX.tr {n n1 n2 : Nat} {den d1 d2 : Nat → Nat} {τ υ : Wd} {m m2 m3 : Nat} (h : EX n den τ n1 d1 m) (h2 : EX n1 d1 υ n2 d2 m2) (hm : m + m2 ≤ m3) : EX n den υ n2 d2 m3 :=
  ⟨h2.1, Nat.le_trans h.2.1 h2.2.1, by have := h.2.2.1; have := h2.2.2.1; omega, fun k hk => by rw [h2.2.2.2 k (Nat.lt_of_lt_of_le hk h.2.1), h.2.2.2 k hk]⟩
/-- a place that holds the number of a gate of that term -/
def GV (σ : Wd) (n : Nat) (den : Nat → Nat) (k j t : Nat) : Prop := ∃ z, z < n ∧ σ.1 k j = nI z ∧ den z = t
theorem GV.up {σ τ : Wd} {n n' : Nat} {den den' : Nat → Nat} {k j t : Nat} (h : GV σ n den k j t) (hn : n ≤ n') (hd : ∀ k, k < n → den' k = den k) (hm : τ.1 k j = σ.1 k j) : GV τ n' den' k j t := by
  obtain ⟨z, h1, h2, h3⟩ := h
  exact ⟨z, by omega, by rw [hm]; exact h2, by rw [hd z h1]; exact h3⟩
theorem CN.cong {σ τ : Wd} {n : Nat} {den : Nat → Nat} (H : CN σ n den) (h : ∀ a, a = 18 ∨ a = 19 ∨ a = 20 ∨ a = 23 ∨ a = 24 → ∀ b, τ.1 a b = σ.1 a b) (h5 : τ.1 4 5 = σ.1 4 5) : CN τ n den := by
  obtain ⟨kd, l, r, nw, bf, h1, h2, h3, h4, h6, h7, h8⟩ := H
  refine ⟨kd, l, r, nw, bf, h1, h2, by rw [h5]; exact h3, fun k k1 k2 => ?_, fun k hk => by rw [h 23 (by omega)]; exact h6 k hk, h7, h8⟩
  obtain ⟨e1, e2, e3, e4, e5, e6⟩ := h4 k k1 k2
  exact ⟨by rw [h 18 (by omega)]; exact e1, by rw [h 19 (by omega)]; exact e2, by rw [h 20 (by omega)]; exact e3, e4, by rw [h 24 (by omega)]; exact e5, e6⟩
theorem CN.put {σ : Wd} {n : Nat} {den : Nat → Nat} (H : CN σ n den) {K j : Nat} {x : Int32} (hK : K ≠ 18 ∧ K ≠ 19 ∧ K ≠ 20 ∧ K ≠ 23 ∧ K ≠ 24 ∧ ¬ (K = 4 ∧ j = 5)) : CN (sF σ K j x) n den := by
  refine H.cong (fun a ha b => sF_ne (by omega)) ?_
  by_cases h : K = 4
  · subst h; exact sF_nb (by omega)
  · exact sF_ne (by omega)
theorem FrN.at {σ τ : Wd} (h : FrN σ τ) {a b : Nat} (ha : a = 26 ∨ a = 27 ∨ a = 22 ∨ a = 28 ∨ a = 29) : τ.1 a b = σ.1 a b := h.2 a b (by omega) (by omega) (by omega) (by omega) (by omega) (by omega)
/-- only the net's rows, its size, and row K may differ -/
def FrK (K : Nat) (σ τ : Wd) : Prop := τ.2 = σ.2 ∧ ∀ a b, a ≠ 18 → a ≠ 19 → a ≠ 20 → a ≠ 23 → a ≠ 24 → a ≠ K → ¬ (a = 4 ∧ b = 5) → τ.1 a b = σ.1 a b
theorem FrK.rf (K : Nat) (σ : Wd) : FrK K σ σ := ⟨rfl, fun _ _ _ _ _ _ _ _ _ => rfl⟩
theorem FrK.tr {K : Nat} {σ τ υ : Wd} (h : FrK K σ τ) (h2 : FrK K τ υ) : FrK K σ υ := ⟨h2.1.trans h.1, fun a b h1 h3 h4 h5 h6 h8 h7 => (h2.2 a b h1 h3 h4 h5 h6 h8 h7).trans (h.2 a b h1 h3 h4 h5 h6 h8 h7)⟩
theorem FrN.K {K : Nat} {σ τ : Wd} (h : FrN σ τ) : FrK K σ τ := ⟨h.1, fun a b h1 h3 h4 h5 h6 _ h7 => h.2 a b h1 h3 h4 h5 h6 h7⟩
theorem FrK.put {K j : Nat} {σ τ : Wd} {x : Int32} (h : FrK K σ τ) : FrK K σ (sF τ K j x) := ⟨h.1, fun a b h1 h3 h4 h5 h6 h8 h7 => by rw [sF_ne h8]; exact h.2 a b h1 h3 h4 h5 h6 h8 h7⟩
theorem NOp.ex {σ : Wd} {n : Nat} {den : Nat → Nat} {m t : Nat} {o : Option (Int32 × Wd)} (h : NOp σ n den m t o) : ∃ (z : Nat) (τ : Wd) (n' : Nat) (den' : Nat → Nat), o = some (nI z, τ) ∧ EX n den τ n' den' m ∧ z < n' ∧ den' z = t ∧ FrN σ τ := by
  obtain ⟨z, τ, n', den', h1, h2, h3, h4, h5, h6, h7, h8⟩ := h
  exact ⟨z, τ, n', den', h1, ⟨h2, h3, h4, h5⟩, h6, h7, h8⟩
theorem sub1 {a b : Nat} (h : b ≤ a) : a + 1 - b = (a - b) + 1 := by omega
theorem ripple_loop (N : Nat) (hN : 512 ≤ N) {K : Nat} (hK : K = 22 ∨ K = 28 ∨ K = 29) {lo hi tc : Nat} (hhi : hi < 12) (KO : Int32 → Wd → Option (Int32 × Wd)) : ∀ (cnt fuel i : Nat) (σ : Wd) (n : Nat) (den : Nat → Nat) (c : Nat),
    i + cnt = hi + 1 → lo ≤ i → cnt < fuel → CN σ n den → (∀ j, lo ≤ j → j ≤ hi → GV σ n den 26 j (tP j) ∧ GV σ n den 27 j (tG j)) → c < n → den c = rcar lo tc (i - lo) → n + 3 * cnt ≤ 512 →
    ∃ (z : Nat) (τ : Wd) (n' : Nat) (den' : Nat → Nat), f_X2_ripple_L6 N K 12 KO fuel (nI hi) (nI c) (nI i) σ = KO (nI z) τ ∧ EX n den τ n' den' (3 * cnt) ∧ z < n' ∧ den' z = rcar lo tc (hi + 1 - lo) ∧
      (∀ j, i ≤ j → j ≤ hi → GV τ n' den' K j (tXor (tP j) (rcar lo tc (j - lo)))) ∧ (∀ j, (j < i ∨ hi < j) → τ.1 K j = σ.1 K j) ∧ FrK K σ τ
  | 0, fuel + 1, i, σ, n, den, c, h1, h2, h3, H, hpg, hc, hd, hr => by
    unfold f_X2_ripple_L6
    have hlt : hi < i := by omega
    rw [if_pos ((nLt (by omega) (by omega)).mpr hlt)]
    exact ⟨c, σ, n, den, rfl, EX.rf _ H, hc, by rw [hd, show i = hi + 1 by omega], fun j h5 h6 => by omega, fun _ _ => rfl, FrK.rf K σ⟩
  | cnt + 1, fuel + 1, i, σ, n, den, c, h1, h2, h3, H, hpg, hc, hd, hr => by
    unfold f_X2_ripple_L6
    have hle : ¬ hi < i := by omega
    rw [if_neg (fun z => hle ((nLt (by omega) (by omega)).mp z))]
    obtain ⟨⟨zp, p1, p2, p3⟩, ⟨zg, g1, g2, g3⟩⟩ := hpg i h2 (by omega)
    rw [xld_n (by omega) (by omega), obind, p2]
    obtain ⟨z1, τ1, n1, d1, e1, x1, y1, t1, f1⟩ := (xor_ok N hN H p1 hc (by omega)).ex
    rw [e1, obind]
    dsimp only
    rw [xst_n (by omega) (by omega), obind, xld_n (by omega) (by omega), obind]
    have c3 : CN (sF τ1 K i (nI z1)) n1 d1 := x1.1.put (by omega)
    rw [xld_n (by omega) (by omega), obind, sF_ne (show 27 ≠ K by omega), sF_ne (show 26 ≠ K by omega), f1.at (by omega), f1.at (by omega), g2, p2]
    have hn1 := x1.2.2.1
    have hn0 := x1.2.1
    obtain ⟨z2, τ2, n2, d2, e2, x2, y2, t2, f2⟩ := (and_ok N hN c3 (show zp < n1 by omega) (show c < n1 by omega) (by omega)).ex
    rw [e2, obind]
    dsimp only
    have hn2 := x2.2.2.1
    have hn20 := x2.2.1
    obtain ⟨z3, τ3, n3, d3, e3, x3, y3, t3, f3⟩ := (or_ok N hN x2.1 (show zg < n2 by omega) y2 (by omega)).ex
    rw [e3, obind, nI_1]
    dsimp only
    have hn3 := x3.2.2.1
    have hn30 := x3.2.1
    have hEX : EX n den τ3 n3 d3 3 := (x1.tr x2 (Nat.le_refl _)).tr x3 (by omega)
    have hd3 : d3 z3 = rcar lo tc (i + 1 - lo) := by
      rw [t3, sub1 h2, rcar, t2, x2.2.2.2 zg (by omega), x1.2.2.2 zg g1, g3, x1.2.2.2 zp p1, p3, x1.2.2.2 c hc, hd, show lo + (i - lo) = i by omega]
    have hfr : FrK K σ τ3 := ((f1.K.put).tr f2.K).tr f3.K
    obtain ⟨z, τ, n', den', E, X, Y, T, G, O, F⟩ := ripple_loop N hN hK hhi KO cnt fuel (i + 1) τ3 n3 d3 z3 (by omega) (by omega) (by omega) x3.1 (fun j j1 j2 => by
      obtain ⟨q1, q2⟩ := hpg j j1 j2
      exact ⟨q1.up hEX.2.1 hEX.2.2.2 (hfr.2 26 j (by omega) (by omega) (by omega) (by omega) (by omega) (by omega) (by omega)), q2.up hEX.2.1 hEX.2.2.2 (hfr.2 27 j (by omega) (by omega) (by omega) (by omega) (by omega) (by omega) (by omega))⟩) y3 hd3 (by omega)
    refine ⟨z, τ, n', den', E, hEX.tr X (by omega), Y, T, fun j j1 j2 => ?_, fun j hj => ?_, hfr.tr F⟩
    · by_cases hji : j = i
      · subst hji
        have hm : τ.1 K j = nI z1 := by
          rw [O j (Or.inl (by omega)), f3.at (by omega), f2.at (by omega), sF_eq]
        have hX1 : EX n1 d1 τ n' den' (3 * cnt + 2) := (x2.tr x3 (Nat.le_refl _)).tr X (by omega)
        refine ⟨z1, by have := hX1.2.1; omega, hm, ?_⟩
        rw [hX1.2.2.2 z1 y1, t1, p3, hd]
      · exact G j (by omega) j2
    · rw [O j (by omega), f3.at (by omega), f2.at (by omega), sF_nb (by omega), f1.at (by omega)]
/-- rippling from bit to bit -/
theorem ripple_ok (N : Nat) (hN : 512 ≤ N) {K : Nat} (hK : K = 22 ∨ K = 28 ∨ K = 29) {lo hi : Nat} (hhi : hi < 12) (hlo : lo ≤ hi) {σ : Wd} {n : Nat} {den : Nat → Nat} {c : Nat} (H : CN σ n den) (hpg : ∀ j, lo ≤ j → j ≤ hi → GV σ n den 26 j (tP j) ∧ GV σ n den 27 j (tG j)) (hc : c < n) (hr : n + 3 * (hi + 1 - lo) ≤ 512) :
    ∃ (z : Nat) (τ : Wd) (n' : Nat) (den' : Nat → Nat), f_X2_ripple N K 12 (nI lo) (nI hi) (nI c) σ = some (nI z, τ) ∧ EX n den τ n' den' (3 * (hi + 1 - lo)) ∧ z < n' ∧ den' z = rcar lo (den c) (hi + 1 - lo) ∧
      (∀ j, lo ≤ j → j ≤ hi → GV τ n' den' K j (rsum lo (den c) j)) ∧ (∀ j, (j < lo ∨ hi < j) → τ.1 K j = σ.1 K j) ∧ FrK K σ τ := by
  unfold f_X2_ripple
  exact ripple_loop N hN hK (tc := den c) hhi (fun x σ => some (x, σ)) (hi + 1 - lo) N lo σ n den c (by omega) (Nat.le_refl _) (by omega) H hpg hc (by rw [Nat.sub_self]; rfl) hr
