section
/-! Blocks laid by the reference. -/
theorem mrip_loop (N : Nat) (hN : 2048 < N) {K L : Nat} (hK : (K = 60 ∧ L = 13) ∨ (K = 61 ∧ L = 12) ∨ (K = 62 ∧ L = 12)) {lo w tc : Nat} (hlw : lo + w ≤ 12) (KO : Int32 → Wd → Option (Int32 × Wd)) : ∀ (cnt fuel i : Nat) (σ : Wd) (n : Nat) (den : Nat → Nat) (c : Nat),
    i + cnt = lo + w → lo ≤ i → cnt < fuel → MN σ n den → c < n → den c = rcar lo tc (i - lo) → n + 6 * cnt ≤ 2048 →
    ∃ (z : Nat) (τ : Wd) (n' : Nat) (den' : Nat → Nat), f_X10_ripples_L6 N K L KO fuel (nI lo) (nI w) (nI c) (nI i) σ = KO (nI z) τ ∧ MX n den τ n' den' (6 * cnt) ∧ z < n' ∧ den' z = rcar lo tc w ∧
      (∀ j, i ≤ j → j < lo + w → GV τ n' den' K j (tXor (tP j) (rcar lo tc (j - lo)))) ∧ (∀ j, (j < i ∨ lo + w ≤ j) → τ.1 K j = σ.1 K j) ∧ FrQ K σ τ
  | 0, fuel + 1, i, σ, n, den, c, h1, h2, h3, H, hc, hd, hr => by
    rw [f_X10_ripples_L6, nI_add, if_pos ((nLe (by omega) (by omega)).mpr (by omega))]
    exact ⟨c, σ, n, den, rfl, MX.rf _ H, hc, by rw [hd, show i - lo = w by omega], fun j h5 h6 => by omega, fun _ _ => rfl, FrQ.rf K σ⟩
  | cnt + 1, fuel + 1, i, σ, n, den, c, h1, h2, h3, H, hc, hd, hr => by
    rw [f_X10_ripples_L6, nI_add, if_neg (fun z => by have := (nLe (by omega) (by omega)).mp z; omega)]
    obtain ⟨zp, τ0, n0, d0, e0, x0, y0, t0, f0⟩ := mp_ok N hN H (i := i) (by omega) (by omega)
    rw [e0, obind]
    dsimp only
    have hn0 := x0.2.1
    have hn01 := x0.2.2.1
    obtain ⟨z1, τ1, n1, d1, e1, x1, y1, t1, f1⟩ := mxor_ok N hN x0.1 y0 (show c < n0 by omega) (by omega)
    rw [e1, obind]
    dsimp only
    rw [xst_n (by omega) (by omega), obind]
    have hn1 := x1.2.1
    have hn11 := x1.2.2.1
    have c3 : MN (sF τ1 K i (nI z1)) n1 d1 := x1.1.put (by omega)
    obtain ⟨zg, τ2, n2, d2, e2, x2, y2, t2, f2⟩ := mg_ok N hN c3 (i := i) (by omega) (by omega)
    rw [e2, obind]
    dsimp only
    have hn2 := x2.2.1
    have hn21 := x2.2.2.1
    obtain ⟨zq, τ3, n3, d3, e3, x3, y3, t3, f3⟩ := mp_ok N hN x2.1 (i := i) (by omega) (by omega)
    rw [e3, obind]
    dsimp only
    have hn3 := x3.2.1
    have hn31 := x3.2.2.1
    obtain ⟨za, τ4, n4, d4, e4, x4, y4, t4, f4⟩ := mand_ok N hN x3.1 y3 (show c < n3 by omega) (by omega)
    rw [e4, obind]
    dsimp only
    have hn4 := x4.2.1
    have hn41 := x4.2.2.1
    obtain ⟨zo, τ5, n5, d5, e5, x5, y5, t5, f5⟩ := mor_ok N hN x4.1 (show zg < n4 by omega) y4 (by omega)
    rw [e5, obind, nI_1]
    dsimp only
    have hn5 := x5.2.1
    have hn51 := x5.2.2.1
    have xA : MX n den (sF τ1 K i (nI z1)) n1 d1 2 := ⟨c3, (x0.tr x1 (Nat.le_refl _)).2⟩
    have xB : MX n1 d1 τ5 n5 d5 4 := ((x2.tr x3 (Nat.le_refl _)).tr x4 (Nat.le_refl _)).tr x5 (by omega)
    have xE : MX n den τ5 n5 d5 6 := xA.tr xB (by omega)
    have hd5 : d5 zo = rcar lo tc (i + 1 - lo) := by
      rw [t5, sub1 h2, rcar, t4, x4.2.2.2 zg (by omega), x3.2.2.2 zg y2, t2, t3, x3.2.2.2 c (by omega), x2.2.2.2 c (by omega), x1.2.2.2 c (by omega), x0.2.2.2 c hc, hd, show lo + (i - lo) = i by omega]
    have hfr : FrQ K σ τ5 := (((((f0.K.tr f1.K).put).tr f2.K).tr f3.K).tr f4.K).tr f5.K
    obtain ⟨z, τ, n', den', E, X, Y, T, G, O, F⟩ := mrip_loop N hN hK hlw KO cnt fuel (i + 1) τ5 n5 d5 zo (by omega) (by omega) (by omega) x5.1 y5 hd5 (by omega)
    refine ⟨z, τ, n', den', E, xE.tr X (by omega), Y, T, fun j j1 j2 => ?_, fun j hj => ?_, hfr.tr F⟩
    · by_cases hji : j = i
      · subst hji
        refine ⟨z1, by have := X.2.1; omega, by rw [O j (Or.inl (by omega)), f5.at (by omega), f4.at (by omega), f3.at (by omega), f2.at (by omega), sF_eq], ?_⟩
        rw [X.2.2.2 z1 (by omega), xB.2.2.2 z1 y1, t1, x0.2.2.2 c hc, t0, hd]
      · exact G j (by omega) j2
    · rw [O j (by omega), f5.at (by omega), f4.at (by omega), f3.at (by omega), f2.at (by omega), sF_nb (by omega), f1.at (by omega), f0.at (by omega)]
theorem mrip_ok (N : Nat) (hN : 2048 < N) {K L : Nat} (hK : (K = 60 ∧ L = 13) ∨ (K = 61 ∧ L = 12) ∨ (K = 62 ∧ L = 12)) {lo w : Nat} (hlw : lo + w ≤ 12) {σ : Wd} {n : Nat} {den : Nat → Nat} {c : Nat} (H : MN σ n den) (hc : c < n) (hr : n + 6 * w ≤ 2048) :
    ∃ (z : Nat) (τ : Wd) (n' : Nat) (den' : Nat → Nat), f_X10_ripples N K L (nI lo) (nI w) (nI c) σ = some (nI z, τ) ∧ MX n den τ n' den' (6 * w) ∧ z < n' ∧ den' z = rcar lo (den c) w ∧
      (∀ j, lo ≤ j → j < lo + w → GV τ n' den' K j (rsum lo (den c) j)) ∧ (∀ j, (j < lo ∨ lo + w ≤ j) → τ.1 K j = σ.1 K j) ∧ FrQ K σ τ := by
  unfold f_X10_ripples
  exact mrip_loop N hN hK (tc := den c) hlw (f_X10_ripples_J61 N K L) w N lo σ n den c (by omega) (Nat.le_refl _) (by omega) H hc (by rw [Nat.sub_self]; rfl) hr
def FrB (σ τ : Wd) : Prop := τ.2 = σ.2 ∧ ∀ a b, a ≠ 53 → a ≠ 54 → a ≠ 55 → a ≠ 60 → a ≠ 61 → a ≠ 62 → ¬ (a = 41 ∧ b = 27) → τ.1 a b = σ.1 a b
def MLay (σ : Wd) (n : Nat) (den : Nat → Nat) (m kind lo w c : Nat) (o : Option (Int32 × Wd)) : Prop :=
  ∃ (z : Nat) (τ : Wd) (n' : Nat) (den' : Nat → Nat), o = some (nI z, τ) ∧ MX n den τ n' den' m ∧ z < n' ∧ den' z = bcar kind lo w c ∧ (∀ j, lo ≤ j → j < lo + w → GV τ n' den' 60 j (bsum kind lo c j)) ∧ (∀ j, (j < lo ∨ lo + w ≤ j) → τ.1 60 j = σ.1 60 j) ∧ FrB σ τ
theorem FrQ.B {σ τ : Wd} {K : Nat} (hK : K = 53 ∨ K = 60 ∨ K = 61 ∨ K = 62) (h : FrQ K σ τ) : FrB σ τ := ⟨h.1, fun a b h1 h2 h3 h4 h5 h6 h7 => h.2 a b h1 h2 h3 (by omega) h7⟩
theorem FrB.tr {σ τ υ : Wd} (h : FrB σ τ) (h2 : FrB τ υ) : FrB σ υ := ⟨h2.1.trans h.1, fun a b q1 q2 q3 q4 q5 q6 q7 => (h2.2 a b q1 q2 q3 q4 q5 q6 q7).trans (h.2 a b q1 q2 q3 q4 q5 q6 q7)⟩
theorem mlayRip (N : Nat) (hN : 2048 < N) {lo w : Nat} (hw : 1 ≤ w) (hlw : lo + w ≤ 12) {σ : Wd} {n : Nat} {den : Nat → Nat} {c : Nat} (H : MN σ n den) (hc : c < n) (hr : n + 57 * w ≤ 2048) :
    MLay σ n den (57 * w) 0 lo w (den c) (f_X10_ripples N 60 13 (nI lo) (nI w) (nI c) σ) := by
  obtain ⟨z, τ, n', den', E, X, Y, T, G, O, F⟩ := mrip_ok N hN (K := 60) (L := 13) (Or.inl ⟨rfl, rfl⟩) hlw H hc (by omega)
  exact ⟨z, τ, n', den', E, X.mo (by omega), Y, T, G, O, F.B (by omega)⟩
theorem mskip_loop (N : Nat) (hN : 2048 < N) {lo w : Nat} (hlw : lo + w ≤ 12) (KO : Int32 → Int32 → Int32 → Wd → Option (Int32 × Wd)) (a b : Int32) : ∀ (cnt fuel i : Nat) (σ : Wd) (n : Nat) (den : Nat → Nat) (c : Nat),
    i + cnt = lo + w → lo < i → cnt < fuel → MN σ n den → c < n → den c = tAll lo (i - 1 - lo) → n + 2 * cnt ≤ 2048 →
    ∃ (z : Nat) (τ : Wd) (n' : Nat) (den' : Nat → Nat), f_X10_skips_L25 N KO fuel (nI lo) (nI w) a b (nI c) (nI i) σ = KO a b (nI z) τ ∧ MX n den τ n' den' (2 * cnt) ∧ z < n' ∧ den' z = tAll lo (w - 1) ∧ FrQ 53 σ τ
  | 0, fuel + 1, i, σ, n, den, c, h1, h2, h3, H, hc, hd, hr => by
    rw [f_X10_skips_L25, nI_add, if_pos ((nLe (by omega) (by omega)).mpr (by omega))]
    exact ⟨c, σ, n, den, rfl, MX.rf _ H, hc, by rw [hd, show i - 1 - lo = w - 1 by omega], FrQ.rf 53 σ⟩
  | cnt + 1, fuel + 1, i, σ, n, den, c, h1, h2, h3, H, hc, hd, hr => by
    rw [f_X10_skips_L25, nI_add, if_neg (fun z => by have := (nLe (by omega) (by omega)).mp z; omega)]
    obtain ⟨zp, τ0, n0, d0, e0, x0, y0, t0, f0⟩ := mp_ok N hN H (i := i) (by omega) (by omega)
    rw [e0, obind]
    dsimp only
    have hn0 := x0.2.1
    have hn01 := x0.2.2.1
    obtain ⟨z1, τ1, n1, d1, e1, x1, y1, t1, f1⟩ := mand_ok N hN x0.1 (show c < n0 by omega) y0 (by omega)
    rw [e1, obind, nI_1]
    dsimp only
    have hn1 := x1.2.1
    have hn11 := x1.2.2.1
    obtain ⟨z, τ, n', den', E, X, Y, T, F⟩ := mskip_loop N hN hlw KO a b cnt fuel (i + 1) τ1 n1 d1 z1 (by omega) (by omega) (by omega) x1.1 y1 (by
      rw [t1, x0.2.2.2 c hc, hd, t0, show i + 1 - 1 - lo = (i - 1 - lo) + 1 by omega, tAll, show lo + (i - 1 - lo + 1) = i by omega]) (by omega)
    exact ⟨z, τ, n', den', E, (x0.tr x1 (Nat.le_refl _)).tr X (by omega), Y, T, (f0.tr f1).tr F⟩
theorem mlaySkip (N : Nat) (hN : 2048 < N) {lo w : Nat} (hw : 1 ≤ w) (hlw : lo + w ≤ 12) {σ : Wd} {n : Nat} {den : Nat → Nat} {c : Nat} (H : MN σ n den) (hc : c < n) (hr : n + 57 * w ≤ 2048) :
    MLay σ n den (57 * w) 1 lo w (den c) (f_X10_skips N (nI lo) (nI w) (nI c) σ) := by
  unfold f_X10_skips
  obtain ⟨z, τ, n1, d1, E, X, Y, T, G, O, F⟩ := mrip_ok N hN (K := 60) (L := 13) (Or.inl ⟨rfl, rfl⟩) hlw H hc (by omega)
  have hn1 := X.2.1
  have hn11 := X.2.2.1
  rw [E, obind]
  dsimp only
  obtain ⟨zp, τ0, n0, d0, e0, x0, y0, t0, f0⟩ := mp_ok N hN X.1 (i := lo) (by omega) (by omega)
  rw [e0, obind, nI_1]
  dsimp only
  have hn0 := x0.2.1
  have hn01 := x0.2.2.1
  obtain ⟨z2, τ2, n2, d2, E2, X2, Y2, T2, F2⟩ := mskip_loop N hN hlw (f_X10_skips_J53 N) (nI c) (nI z) (w - 1) N (lo + 1) τ0 n0 d0 zp (by omega) (by omega) (by omega) x0.1 y0 (by rw [t0, show lo + 1 - 1 - lo = 0 by omega]; rfl) (by omega)
  rw [E2]
  unfold f_X10_skips_J53
  have hn2 := X2.2.1
  have hn21 := X2.2.2.1
  obtain ⟨z3, τ3, n3, d3, e3, x3, y3, t3, f3⟩ := mand_ok N hN X2.1 Y2 (show c < n2 by omega) (by omega)
  rw [e3, obind]
  dsimp only
  have hn3 := x3.2.1
  have hn31 := x3.2.2.1
  obtain ⟨z4, τ4, n4, d4, e4, x4, y4, t4, f4⟩ := mor_ok N hN x3.1 (show z < n3 by omega) y3 (by omega)
  rw [e4, obind]
  have hX2 : MX n1 d1 τ4 n4 d4 (2 * w + 3) := ((x0.tr X2 (Nat.le_refl _)).tr x3 (Nat.le_refl _)).tr x4 (by omega)
  have hF : FrQ 53 τ τ4 := ((f0.tr F2).tr f3).tr f4
  refine ⟨z4, τ4, n4, d4, rfl, X.tr hX2 (by omega), y4, ?_, fun j j1 j2 => (G j j1 (by omega)).up hX2.2.1 hX2.2.2.2 (hF.at (by omega)), fun j hj => by rw [hF.at (by omega), O j (by omega)], (F.B (by omega)).tr (hF.B (by omega))⟩
  rw [t4, x3.2.2.2 z (by omega), X2.2.2.2 z (by omega), x0.2.2.2 z Y, T, t3, T2, X2.2.2.2 c (by omega), x0.2.2.2 c (by omega), X.2.2.2 c hc]
  rfl
theorem msel_loop (N : Nat) (hN : 2048 < N) {lo w ct : Nat} (hlw : lo + w ≤ 12) (KO : Int32 → Int32 → Int32 → Wd → Option (Int32 × Wd)) (a b : Int32) {c : Nat} : ∀ (cnt fuel i : Nat) (σ : Wd) (n : Nat) (den : Nat → Nat),
    i + cnt = lo + w → lo ≤ i → cnt < fuel → MN σ n den → (∀ j, lo ≤ j → j < lo + w → GV σ n den 61 j (rsum lo 25 j) ∧ GV σ n den 62 j (rsum lo 26 j)) → c < n → den c = ct → n + 4 * cnt ≤ 2048 →
    ∃ (τ : Wd) (n' : Nat) (den' : Nat → Nat), f_X10_selects_L31 N KO fuel (nI lo) (nI w) (nI c) a b (nI i) σ = KO (nI c) a b τ ∧ MX n den τ n' den' (4 * cnt) ∧ (∀ j, i ≤ j → j < lo + w → GV τ n' den' 60 j (bsum 2 lo ct j)) ∧ (∀ j, (j < i ∨ lo + w ≤ j) → τ.1 60 j = σ.1 60 j) ∧ FrQ 60 σ τ
  | 0, fuel + 1, i, σ, n, den, h1, h2, h3, H, hp, hc, hd, hr => by
    rw [f_X10_selects_L31, nI_add, if_pos ((nLe (by omega) (by omega)).mpr (by omega))]
    exact ⟨σ, n, den, rfl, MX.rf _ H, fun j h5 h6 => by omega, fun _ _ => rfl, FrQ.rf 60 σ⟩
  | cnt + 1, fuel + 1, i, σ, n, den, h1, h2, h3, H, hp, hc, hd, hr => by
    rw [f_X10_selects_L31, nI_add, if_neg (fun z => by have := (nLe (by omega) (by omega)).mp z; omega)]
    obtain ⟨⟨z0, p1, p2, p3⟩, ⟨zo, g1, g2, g3⟩⟩ := hp i h2 (by omega)
    rw [xld_n (by omega) (by omega), obind, g2]
    obtain ⟨z1, τ1, n1, d1, e1, x1, y1, t1, f1⟩ := mand_ok N hN H g1 hc (by omega)
    rw [e1, obind]
    dsimp only
    rw [xld_n (by omega) (by omega), obind, f1.at (by omega), p2]
    have hn1 := x1.2.2.1
    have hn10 := x1.2.1
    obtain ⟨z2, τ2, n2, d2, e2, x2, y2, t2, f2⟩ := mnot_ok N hN x1.1 (show c < n1 by omega) (by omega)
    rw [e2, obind]
    dsimp only
    have hn2 := x2.2.2.1
    have hn20 := x2.2.1
    obtain ⟨z3, τ3, n3, d3, e3, x3, y3, t3, f3⟩ := mand_ok N hN x2.1 (show z0 < n2 by omega) y2 (by omega)
    rw [e3, obind]
    dsimp only
    have hn3 := x3.2.2.1
    have hn30 := x3.2.1
    obtain ⟨z4, τ4, n4, d4, e4, x4, y4, t4, f4⟩ := mor_ok N hN x3.1 (show z1 < n3 by omega) y3 (by omega)
    rw [e4, obind]
    dsimp only
    have hn4 := x4.2.2.1
    have hn40 := x4.2.1
    rw [xst_n (by omega) (by omega), obind, nI_1]
    have hEX : MX n den τ4 n4 d4 4 := ((x1.tr x2 (Nat.le_refl _)).tr x3 (Nat.le_refl _)).tr x4 (by omega)
    have hfr : FrQ 60 σ (sF τ4 60 i (nI z4)) := (((f1.K.tr f2.K).tr f3.K).tr f4.K).put
    have c5 : MN (sF τ4 60 i (nI z4)) n4 d4 := x4.1.put (by omega)
    obtain ⟨τ, n', den', E, X, G, O, F⟩ := msel_loop N hN (ct := ct) hlw KO a b cnt fuel (i + 1) (sF τ4 60 i (nI z4)) n4 d4 (by omega) (by omega) (by omega) c5 (fun j j1 j2 => by
      obtain ⟨q1, q2⟩ := hp j j1 j2
      exact ⟨q1.up hEX.2.1 hEX.2.2.2 (hfr.2 61 j (by omega) (by omega) (by omega) (by omega) (by omega)), q2.up hEX.2.1 hEX.2.2.2 (hfr.2 62 j (by omega) (by omega) (by omega) (by omega) (by omega))⟩) (show c < n4 by omega) (by rw [hEX.2.2.2 c hc, hd]) (by omega)
    have hEX5 : MX n den (sF τ4 60 i (nI z4)) n4 d4 4 := ⟨c5, hEX.2⟩
    refine ⟨τ, n', den', E, hEX5.tr X (by omega), fun j j1 j2 => ?_, fun j hj => ?_, hfr.tr F⟩
    · by_cases hji : j = i
      · subst hji
        refine ⟨z4, by have := X.2.1; omega, by rw [O j (Or.inl (by omega)), sF_eq], ?_⟩
        rw [X.2.2.2 z4 y4, t4, x3.2.2.2 z1 (by omega), x2.2.2.2 z1 y1, t1, g3, hd, t3, x2.2.2.2 z0 (by omega), x1.2.2.2 z0 p1, p3, t2, x1.2.2.2 c hc, hd]
        rfl
      · exact G j (by omega) j2
    · rw [O j (by omega), sF_nb (by omega), f4.at (by omega), f3.at (by omega), f2.at (by omega), f1.at (by omega)]
theorem mlaySel (N : Nat) (hN : 2048 < N) {lo w : Nat} (hw : 1 ≤ w) (hlw : lo + w ≤ 12) {σ : Wd} {n : Nat} {den : Nat → Nat} {c : Nat} (H : MN σ n den) (hc : c < n) (hr : n + 57 * w ≤ 2048) :
    MLay σ n den (57 * w) 2 lo w (den c) (f_X10_selects N (nI lo) (nI w) (nI c) σ) := by
  unfold f_X10_selects
  have h27 := H.lt.1
  obtain ⟨z, τ, n1, d1, E, X, Y, T, G, O, F⟩ := mrip_ok N hN (K := 61) (L := 12) (Or.inr (Or.inl ⟨rfl, rfl⟩)) hlw (c := 25) H (by omega) (by omega)
  rw [show (25 : Int32) = nI 25 from rfl, E, obind]
  dsimp only
  have hn1 := X.2.2.1
  have hn0 := X.2.1
  obtain ⟨z2, τ2, n2, d2, E2, X2, Y2, T2, G2, O2, F2⟩ := mrip_ok N hN (K := 62) (L := 12) (Or.inr (Or.inr ⟨rfl, rfl⟩)) hlw (c := 26) X.1 (by omega) (by omega)
  rw [show (26 : Int32) = nI 26 from rfl, E2, obind]
  dsimp only
  have hn2 := X2.2.2.1
  have hn20 := X2.2.1
  rw [H.leaf (show 25 < 27 by omega)] at G T
  rw [X.1.leaf (show 26 < 27 by omega)] at G2 T2
  obtain ⟨τ3, n3, d3, E3, X3, G3, O3, F3⟩ := msel_loop N hN (ct := den c) hlw (f_X10_selects_J84 N) (nI z) (nI z2) (c := c) w N lo τ2 n2 d2 (by omega) (by omega) (by omega) X2.1 (fun j j1 j2 => ⟨(G j j1 j2).up X2.2.1 X2.2.2.2 (F2.2 61 j (by omega) (by omega) (by omega) (by omega) (by omega)), G2 j j1 j2⟩) (show c < n2 by omega) (by rw [X2.2.2.2 c (by omega), X.2.2.2 c hc]) (by omega)
  rw [E3]
  unfold f_X10_selects_J84
  have hn3 := X3.2.2.1
  have hn30 := X3.2.1
  obtain ⟨z4, τ4, n4, d4, e4, x4, y4, t4, f4⟩ := mand_ok N hN X3.1 (show z2 < n3 by omega) (show c < n3 by omega) (by omega)
  rw [e4, obind]
  dsimp only
  have hn4 := x4.2.2.1
  have hn40 := x4.2.1
  obtain ⟨z5, τ5, n5, d5, e5, x5, y5, t5, f5⟩ := mor_ok N hN x4.1 (show z < n4 by omega) y4 (by omega)
  rw [e5, obind]
  have hX5 : MX n3 d3 τ5 n5 d5 2 := x4.tr x5 (by omega)
  refine ⟨z5, τ5, n5, d5, rfl, ((X.tr X2 (Nat.le_refl _)).tr X3 (Nat.le_refl _)).tr hX5 (by omega), y5, ?_, fun j j1 j2 => (G3 j j1 (by omega)).up hX5.2.1 hX5.2.2.2 (by rw [f5.at (by omega), f4.at (by omega)]), fun j hj => by rw [f5.at (by omega), f4.at (by omega), O3 j (by omega), F2.2 60 j (by omega) (by omega) (by omega) (by omega) (by omega), F.2 60 j (by omega) (by omega) (by omega) (by omega) (by omega)], ((((F.B (by omega)).tr (F2.B (by omega))).tr (F3.B (by omega))).tr (f4.B (by omega))).tr (f5.B (by omega))⟩
  rw [t5, x4.2.2.2 z (by omega), X3.2.2.2 z (by omega), X2.2.2.2 z Y, T, t4, X3.2.2.2 z2 Y2, T2, X3.2.2.2 c (by omega), X2.2.2.2 c (by omega), X.2.2.2 c hc]
  rfl
theorem mspanP_ok (N : Nat) (hN : 2048 < N) : ∀ (d i j : Nat) (σ : Wd) (n : Nat) (den : Nat → Nat), i ≤ j → j - i < d → j - i ≤ 5 → j < 12 → MN σ n den → n + (2 * (j - i) + 1) ≤ 2048 → MOp σ n den (2 * (j - i) + 1) (spP 8 i j) (f_X10_spanP N d (nI i) (nI j) σ)
  | 0, i, j, σ, n, den, _, h1, _, _, _, _ => absurd h1 (Nat.not_lt_zero _)
  | d + 1, i, j, σ, n, den, hle, h1, h2, h3, H, hr => by
    rw [f_X10_spanP]
    by_cases hij : i = j
    · subst hij
      rw [if_pos rfl, spP_le (Nat.le_refl _)]
      have := (mp_ok N hN H h3 (by omega)).ret
      rw [Nat.sub_self]
      exact this
    · rw [if_neg (neN (by omega) (by omega) hij), spP_gt (by omega) (by omega), nI_add, show nI (i + j) / 2 = nI ((i + j) / 2) from nDiv2 (by omega), nI_1]
      obtain ⟨z1, τ1, n1, d1, e1, x1, y1, t1, f1⟩ := mspanP_ok N hN d i ((i + j) / 2) σ n den (by omega) (by omega) (by omega) (by omega) H (by omega)
      rw [e1, obind]
      dsimp only
      have hn1 := x1.2.2.1
      have hn10 := x1.2.1
      obtain ⟨z2, τ2, n2, d2, e2, x2, y2, t2, f2⟩ := mspanP_ok N hN d ((i + j) / 2 + 1) j τ1 n1 d1 (by omega) (by omega) (by omega) (by omega) x1.1 (by omega)
      rw [e2, obind]
      dsimp only
      have hn2 := x2.2.2.1
      have hn20 := x2.2.1
      obtain ⟨z3, τ3, n3, d3, e3, x3, y3, t3, f3⟩ := mand_ok N hN x2.1 (show z1 < n2 by omega) y2 (by omega)
      rw [e3, obind]
      refine ⟨z3, τ3, n3, d3, rfl, (x1.tr x2 (Nat.le_refl _)).tr x3 (by omega), y3, ?_, (f1.tr f2).tr f3⟩
      rw [t3, x2.2.2.2 z1 y1, t1, t2]
theorem mspanG_ok (N : Nat) (hN : 2048 < N) : ∀ (d i j : Nat) (σ : Wd) (n : Nat) (den : Nat → Nat), i ≤ j → j - i < d → j - i ≤ 5 → j < 12 → MN σ n den → n + (8 * (j - i) + 1) ≤ 2048 → MOp σ n den (8 * (j - i) + 1) (spG 8 i j) (f_X10_spanG N d (nI i) (nI j) σ)
  | 0, i, j, σ, n, den, _, h1, _, _, _, _ => absurd h1 (Nat.not_lt_zero _)
  | d + 1, i, j, σ, n, den, hle, h1, h2, h3, H, hr => by
    rw [f_X10_spanG]
    by_cases hij : i = j
    · subst hij
      rw [if_pos rfl, spG_le (Nat.le_refl _)]
      have := (mg_ok N hN H h3 (by omega)).ret
      rw [Nat.sub_self]
      exact this
    · rw [if_neg (neN (by omega) (by omega) hij), spG_gt (by omega) (by omega), nI_add, show nI (i + j) / 2 = nI ((i + j) / 2) from nDiv2 (by omega), nI_1]
      obtain ⟨z1, τ1, n1, d1, e1, x1, y1, t1, f1⟩ := mspanG_ok N hN d ((i + j) / 2 + 1) j σ n den (by omega) (by omega) (by omega) (by omega) H (by omega)
      rw [e1, obind]
      dsimp only
      have hn1 := x1.2.2.1
      have hn10 := x1.2.1
      obtain ⟨z2, τ2, n2, d2, e2, x2, y2, t2, f2⟩ := mspanP_ok N hN 9 ((i + j) / 2 + 1) j τ1 n1 d1 (by omega) (by omega) (by omega) (by omega) x1.1 (by omega)
      rw [e2, obind]
      dsimp only
      have hn2 := x2.2.2.1
      have hn20 := x2.2.1
      obtain ⟨z3, τ3, n3, d3, e3, x3, y3, t3, f3⟩ := mspanG_ok N hN d i ((i + j) / 2) τ2 n2 d2 (by omega) (by omega) (by omega) (by omega) x2.1 (by omega)
      rw [e3, obind]
      dsimp only
      have hn3 := x3.2.2.1
      have hn30 := x3.2.1
      obtain ⟨z4, τ4, n4, d4, e4, x4, y4, t4, f4⟩ := mand_ok N hN x3.1 (show z2 < n3 by omega) y3 (by omega)
      rw [e4, obind]
      dsimp only
      have hn4 := x4.2.2.1
      have hn40 := x4.2.1
      obtain ⟨z5, τ5, n5, d5, e5, x5, y5, t5, f5⟩ := mor_ok N hN x4.1 (show z1 < n4 by omega) y4 (by omega)
      rw [e5, obind]
      refine ⟨z5, τ5, n5, d5, rfl, (((x1.tr x2 (Nat.le_refl _)).tr x3 (Nat.le_refl _)).tr x4 (Nat.le_refl _)).tr x5 (by omega), y5, ?_, (((f1.tr f2).tr f3).tr f4).tr f5⟩
      rw [t5, x4.2.2.2 z1 (by omega), x3.2.2.2 z1 (by omega), x2.2.2.2 z1 y1, t1, t4, x3.2.2.2 z2 y2, t2, t3]
theorem mah_loop (N : Nat) (hN : 2048 < N) {lo w ct c : Nat} (hlw : lo + w ≤ 12) (hw6 : w ≤ 6) (KO : Int32 → Wd → Option (Int32 × Wd)) : ∀ (cnt fuel i : Nat) (σ : Wd) (n : Nat) (den : Nat → Nat) (y : Nat),
    i + cnt = lo + w → lo ≤ i → cnt < fuel → MN σ n den → c < n → den c = ct → y < n → den y = lcar lo ct (i - lo) → n + 57 * cnt ≤ 2048 →
    ∃ (z : Nat) (τ : Wd) (n' : Nat) (den' : Nat → Nat), f_X10_looksAhead_L6 N KO fuel (nI lo) (nI w) (nI c) (nI y) (nI i) σ = KO (nI z) τ ∧ MX n den τ n' den' (57 * cnt) ∧ z < n' ∧ den' z = lcar lo ct w ∧ (∀ j, i ≤ j → j < lo + w → GV τ n' den' 60 j (bsum 3 lo ct j)) ∧ (∀ j, (j < i ∨ lo + w ≤ j) → τ.1 60 j = σ.1 60 j) ∧ FrQ 60 σ τ
  | 0, fuel + 1, i, σ, n, den, y, h1, h2, h3, H, hc, hd, hy, hdy, hr => by
    rw [f_X10_looksAhead_L6, nI_add, if_pos ((nLe (by omega) (by omega)).mpr (by omega))]
    exact ⟨y, σ, n, den, rfl, MX.rf _ H, hy, by rw [hdy, show i - lo = w by omega], fun j h5 h6 => by omega, fun _ _ => rfl, FrQ.rf 60 σ⟩
  | cnt + 1, fuel + 1, i, σ, n, den, y, h1, h2, h3, H, hc, hd, hy, hdy, hr => by
    rw [f_X10_looksAhead_L6, nI_add, if_neg (fun z => by have := (nLe (by omega) (by omega)).mp z; omega)]
    obtain ⟨zp, τ0, n0, d0, e0, x0, y0, t0, f0⟩ := mp_ok N hN H (i := i) (by omega) (by omega)
    rw [e0, obind]
    dsimp only
    have hn0 := x0.2.1
    have hn01 := x0.2.2.1
    obtain ⟨z1, τ1, n1, d1, e1, x1, y1, t1, f1⟩ := mxor_ok N hN x0.1 y0 (show y < n0 by omega) (by omega)
    rw [e1, obind]
    dsimp only
    rw [xst_n (by omega) (by omega), obind]
    have hn1 := x1.2.1
    have hn11 := x1.2.2.1
    have c3 : MN (sF τ1 60 i (nI z1)) n1 d1 := x1.1.put (by omega)
    obtain ⟨z2, τ2, n2, d2, e2, x2, y2, t2, f2⟩ := mspanG_ok N hN 9 lo i _ n1 d1 h2 (by omega) (by omega) (by omega) c3 (by omega)
    rw [e2, obind]
    dsimp only
    have hn2 := x2.2.1
    have hn21 := x2.2.2.1
    obtain ⟨z3, τ3, n3, d3, e3, x3, y3, t3, f3⟩ := mspanP_ok N hN 9 lo i τ2 n2 d2 h2 (by omega) (by omega) (by omega) x2.1 (by omega)
    rw [e3, obind]
    dsimp only
    have hn3 := x3.2.1
    have hn31 := x3.2.2.1
    obtain ⟨z4, τ4, n4, d4, e4, x4, y4, t4, f4⟩ := mand_ok N hN x3.1 y3 (show c < n3 by omega) (by omega)
    rw [e4, obind]
    dsimp only
    have hn4 := x4.2.1
    have hn41 := x4.2.2.1
    obtain ⟨z5, τ5, n5, d5, e5, x5, y5, t5, f5⟩ := mor_ok N hN x4.1 (show z2 < n4 by omega) y4 (by omega)
    rw [e5, obind, nI_1]
    dsimp only
    have hn5 := x5.2.1
    have hn51 := x5.2.2.1
    have xA : MX n den (sF τ1 60 i (nI z1)) n1 d1 2 := ⟨c3, (x0.tr x1 (Nat.le_refl _)).2⟩
    have xB : MX n1 d1 τ5 n5 d5 54 := ((x2.tr x3 (Nat.le_refl _)).tr x4 (Nat.le_refl _)).tr x5 (by omega)
    have xE : MX n den τ5 n5 d5 57 := xA.tr xB (by omega)
    have hd5 : d5 z5 = lcar lo ct (i + 1 - lo) := by
      rw [sub1 h2, lcar, show lo + (i - lo) = i by omega, t5, x4.2.2.2 z2 (by omega), x3.2.2.2 z2 y2, t2, t4, t3, x3.2.2.2 c (by omega), x2.2.2.2 c (by omega), x1.2.2.2 c (by omega), x0.2.2.2 c hc, hd]
    have hfr : FrQ 60 σ τ5 := (((((f0.K.tr f1.K).put).tr f2.K).tr f3.K).tr f4.K).tr f5.K
    obtain ⟨z, τ, n', den', E, X, Y, T, G, O, F⟩ := mah_loop N hN (lo := lo) (ct := ct) (c := c) hlw hw6 KO cnt fuel (i + 1) τ5 n5 d5 z5 (by omega) (by omega) (by omega) x5.1 (show c < n5 by omega) (by rw [xE.2.2.2 c hc, hd]) y5 hd5 (by omega)
    refine ⟨z, τ, n', den', E, xE.tr X (by omega), Y, T, fun j j1 j2 => ?_, fun j hj => ?_, hfr.tr F⟩
    · by_cases hji : j = i
      · subst hji
        refine ⟨z1, by have := X.2.1; omega, by rw [O j (Or.inl (by omega)), f5.at (by omega), f4.at (by omega), f3.at (by omega), f2.at (by omega), sF_eq], ?_⟩
        rw [X.2.2.2 z1 (by omega), xB.2.2.2 z1 y1, t1, t0, x0.2.2.2 y hy, hdy]
        rfl
      · exact G j (by omega) j2
    · rw [O j (by omega), f5.at (by omega), f4.at (by omega), f3.at (by omega), f2.at (by omega), sF_nb (by omega), f1.at (by omega), f0.at (by omega)]
theorem mlayAh (N : Nat) (hN : 2048 < N) {lo w : Nat} (hw : 1 ≤ w) (hw6 : w ≤ 6) (hlw : lo + w ≤ 12) {σ : Wd} {n : Nat} {den : Nat → Nat} {c : Nat} (H : MN σ n den) (hc : c < n) (hr : n + 57 * w ≤ 2048) :
    MLay σ n den (57 * w) 3 lo w (den c) (f_X10_looksAhead N (nI lo) (nI w) (nI c) σ) := by
  unfold f_X10_looksAhead
  obtain ⟨z, τ, n', den', E, X, Y, T, G, O, F⟩ := mah_loop N hN (lo := lo) (ct := den c) (c := c) hlw hw6 (f_X10_looksAhead_J64 N) w N lo σ n den c (by omega) (Nat.le_refl _) (by omega) H hc rfl hc (by rw [Nat.sub_self]; rfl) hr
  exact ⟨z, τ, n', den', E, X, Y, T, G, O, F.B (by omega)⟩
end
