/-- AND of all p, one by one -/
theorem skip_loop (N : Nat) (hN : 512 ≤ N) {lo hi : Nat} (hhi : hi < 12) (KO : Int32 → Int32 → Int32 → Wd → Option (Int32 × Wd)) (a b : Int32) : ∀ (cnt fuel i : Nat) (σ : Wd) (n : Nat) (den : Nat → Nat) (c : Nat),
    i + cnt = hi + 1 → lo < i → cnt < fuel → CN σ n den → (∀ j, lo ≤ j → j ≤ hi → GV σ n den 26 j (tP j)) → c < n → den c = tAll lo (i - 1 - lo) → n + cnt ≤ 512 →
    ∃ (z : Nat) (τ : Wd) (n' : Nat) (den' : Nat → Nat), f_X2_laySkip_L31 N KO fuel (nI hi) a b (nI c) (nI i) σ = KO a b (nI z) τ ∧ EX n den τ n' den' cnt ∧ z < n' ∧ den' z = tAll lo (hi - lo) ∧ FrN σ τ
  | 0, fuel + 1, i, σ, n, den, c, h1, h2, h3, H, hp, hc, hd, hr => by
    unfold f_X2_laySkip_L31
    have hlt : hi < i := by omega
    rw [if_pos ((nLt (by omega) (by omega)).mpr hlt)]
    exact ⟨c, σ, n, den, rfl, EX.rf _ H, hc, by rw [hd, show i - 1 - lo = hi - lo by omega], FrN.rf σ⟩
  | cnt + 1, fuel + 1, i, σ, n, den, c, h1, h2, h3, H, hp, hc, hd, hr => by
    unfold f_X2_laySkip_L31
    have hle : ¬ hi < i := by omega
    rw [if_neg (fun z => hle ((nLt (by omega) (by omega)).mp z))]
    obtain ⟨zp, p1, p2, p3⟩ := hp i (by omega) (by omega)
    rw [xld_n (by omega) (by omega), obind, p2]
    obtain ⟨z1, τ1, n1, d1, e1, x1, y1, t1, f1⟩ := (and_ok N hN H hc p1 (by omega)).ex
    rw [e1, obind, nI_1]
    dsimp only
    have hn1 := x1.2.2.1
    have hn0 := x1.2.1
    obtain ⟨z, τ, n', den', E, X, Y, T, F⟩ := skip_loop N hN hhi KO a b cnt fuel (i + 1) τ1 n1 d1 z1 (by omega) (by omega) (by omega) x1.1 (fun j j1 j2 => (hp j j1 j2).up x1.2.1 x1.2.2.2 (f1.at (by omega))) y1 (by
      rw [t1, hd, p3, show i + 1 - 1 - lo = (i - 1 - lo) + 1 by omega, tAll, show lo + (i - 1 - lo + 1) = i by omega]) (by omega)
    exact ⟨z, τ, n', den', E, x1.tr X (by omega), Y, T, f1.tr F⟩
theorem GVs.up {σ τ : Wd} {n n' : Nat} {den den' : Nat → Nat} {lo hi : Nat} (h : ∀ j, lo ≤ j → j ≤ hi → GV σ n den 26 j (tP j) ∧ GV σ n den 27 j (tG j)) (hn : n ≤ n') (hd : ∀ k, k < n → den' k = den k) (hm : ∀ j, τ.1 26 j = σ.1 26 j ∧ τ.1 27 j = σ.1 27 j) : ∀ j, lo ≤ j → j ≤ hi → GV τ n' den' 26 j (tP j) ∧ GV τ n' den' 27 j (tG j) := fun j j1 j2 => ⟨(h j j1 j2).1.up hn hd (hm j).1, (h j j1 j2).2.up hn hd (hm j).2⟩
/-- what laying a block's gates gives -/
def LayR (σ : Wd) (n : Nat) (den : Nat → Nat) (m kind lo w c : Nat) (o : Option (Int32 × Wd)) : Prop :=
  ∃ (z : Nat) (τ : Wd) (n' : Nat) (den' : Nat → Nat), o = some (nI z, τ) ∧ EX n den τ n' den' m ∧ z < n' ∧ den' z = bcar kind lo w c ∧ (∀ j, lo ≤ j → j < lo + w → GV τ n' den' 22 j (bsum kind lo c j)) ∧ (∀ j, (j < lo ∨ lo + w ≤ j) → τ.1 22 j = σ.1 22 j) ∧ τ.2 = σ.2 ∧ (∀ a b, a ≠ 18 → a ≠ 19 → a ≠ 20 → a ≠ 23 → a ≠ 24 → a ≠ 22 → a ≠ 28 → a ≠ 29 → ¬ (a = 4 ∧ b = 5) → τ.1 a b = σ.1 a b)
theorem layRip (N : Nat) (hN : 512 ≤ N) {lo w : Nat} (hw : 1 ≤ w) (hlw : lo + w ≤ 12) {σ : Wd} {n : Nat} {den : Nat → Nat} {c : Nat} (H : CN σ n den) (hpg : ∀ j, lo ≤ j → j ≤ lo + w - 1 → GV σ n den 26 j (tP j) ∧ GV σ n den 27 j (tG j)) (hc : c < n) (hr : n + 12 * w ≤ 512) :
    LayR σ n den (12 * w) 0 lo w (den c) (f_X2_ripple N 22 12 (nI lo) (nI (lo + w - 1)) (nI c) σ) := by
  obtain ⟨z, τ, n', den', E, X, Y, T, G, O, F⟩ := ripple_ok N hN (K := 22) (Or.inl rfl) (lo := lo) (hi := lo + w - 1) (by omega) (by omega) H hpg hc (by omega)
  refine ⟨z, τ, n', den', E, ⟨X.1, X.2.1, by have := X.2.2.1; omega, X.2.2.2⟩, Y, by rw [T, show lo + w - 1 + 1 - lo = w by omega]; rfl, fun j j1 j2 => G j j1 (by omega), fun j hj => O j (by omega), F.1, fun a b h1 h2 h3 h4 h5 h6 h7 h8 h9 => F.2 a b h1 h2 h3 h4 h5 h6 h9⟩
theorem laySkip_ok (N : Nat) (hN : 512 ≤ N) {lo w : Nat} (hw : 1 ≤ w) (hlw : lo + w ≤ 12) {σ : Wd} {n : Nat} {den : Nat → Nat} {c : Nat} (H : CN σ n den) (hpg : ∀ j, lo ≤ j → j ≤ lo + w - 1 → GV σ n den 26 j (tP j) ∧ GV σ n den 27 j (tG j)) (hc : c < n) (hcm : σ.1 4 7 = nI c) (hr : n + 12 * w ≤ 512) :
    LayR σ n den (12 * w) 1 lo w (den c) (f_X2_laySkip N (nI lo) (nI (lo + w - 1)) σ) := by
  unfold f_X2_laySkip
  obtain ⟨z, τ, n1, d1, E, X, Y, T, G, O, F⟩ := ripple_ok N hN (K := 22) (Or.inl rfl) (lo := lo) (hi := lo + w - 1) (by omega) (by omega) H hpg hc (by omega)
  have hn1 := X.2.2.1
  have hn0 := X.2.1
  have hpg1 := GVs.up hpg X.2.1 X.2.2.2 (fun j => ⟨F.2 26 j (by omega) (by omega) (by omega) (by omega) (by omega) (by omega) (by omega), F.2 27 j (by omega) (by omega) (by omega) (by omega) (by omega) (by omega) (by omega)⟩)
  obtain ⟨zp, p1, p2, p3⟩ := (hpg1 lo (by omega) (by omega)).1
  rw [hcm, E, obind]
  dsimp only
  rw [xld_n (by omega) (by omega), obind, p2, nI_1]
  obtain ⟨z2, τ2, n2, d2, E2, X2, Y2, T2, F2⟩ := skip_loop N hN (lo := lo) (hi := lo + w - 1) (by omega) (f_X2_laySkip_J58 N) (nI c) (nI z) (w - 1) N (lo + 1) τ n1 d1 zp (by omega) (by omega) (by omega) X.1 (fun j j1 j2 => (hpg1 j j1 j2).1) p1 (by rw [p3, show lo + 1 - 1 - lo = 0 by omega]; rfl) (by omega)
  rw [E2]
  unfold f_X2_laySkip_J58
  have hn2 := X2.2.2.1
  have hn20 := X2.2.1
  obtain ⟨z3, τ3, n3, d3, e3, x3, y3, t3, f3⟩ := (and_ok N hN X2.1 Y2 (show c < n2 by omega) (by omega)).ex
  rw [e3, obind]
  dsimp only
  have hn3 := x3.2.2.1
  have hn30 := x3.2.1
  obtain ⟨z4, τ4, n4, d4, e4, x4, y4, t4, f4⟩ := (or_ok N hN x3.1 (show z < n3 by omega) y3 (by omega)).ex
  rw [e4, obind]
  have hX2 : EX n1 d1 τ4 n4 d4 (w - 1 + 2) := (X2.tr x3 (Nat.le_refl _)).tr x4 (by omega)
  refine ⟨z4, τ4, n4, d4, rfl, X.tr hX2 (by omega), y4, ?_, fun j j1 j2 => (G j j1 (by omega)).up hX2.2.1 hX2.2.2.2 (by rw [f4.at (by omega), f3.at (by omega), F2.at (by omega)]), fun j hj => by rw [f4.at (by omega), f3.at (by omega), F2.at (by omega), O j (by omega)], by rw [f4.1, f3.1, F2.1, F.1], fun a b h1 h2 h3 h4 h5 h6 h7 h8 h9 => ?_⟩
  · rw [t4, x3.2.2.2 z (by omega), X2.2.2.2 z Y, T, t3, T2, X2.2.2.2 c (by omega), X.2.2.2 c hc]
    show _ = tOr (rcar lo (den c) w) (tAnd (tAll lo (w - 1)) (den c))
    rw [show lo + w - 1 + 1 - lo = w by omega, show lo + w - 1 - lo = w - 1 by omega]
  · rw [f4.2 a b h1 h2 h3 h4 h5 h9, f3.2 a b h1 h2 h3 h4 h5 h9, F2.2 a b h1 h2 h3 h4 h5 h9, F.2 a b h1 h2 h3 h4 h5 h6 h9]
theorem sel_loop (N : Nat) (hN : 512 ≤ N) {lo hi ct : Nat} (hhi : hi < 12) (KO : Int32 → Int32 → Int32 → Wd → Option (Int32 × Wd)) (a b : Int32) {c : Nat} : ∀ (cnt fuel i : Nat) (σ : Wd) (n : Nat) (den : Nat → Nat),
    i + cnt = hi + 1 → lo ≤ i → cnt < fuel → CN σ n den → (∀ j, lo ≤ j → j ≤ hi → GV σ n den 28 j (rsum lo 25 j) ∧ GV σ n den 29 j (rsum lo 26 j)) → c < n → den c = ct → n + 4 * cnt ≤ 512 →
    ∃ (τ : Wd) (n' : Nat) (den' : Nat → Nat), f_X2_laySelect_L34 N KO fuel (nI hi) (nI c) a b (nI i) σ = KO (nI c) a b τ ∧ EX n den τ n' den' (4 * cnt) ∧ (∀ j, i ≤ j → j ≤ hi → GV τ n' den' 22 j (bsum 2 lo ct j)) ∧ (∀ j, (j < i ∨ hi < j) → τ.1 22 j = σ.1 22 j) ∧ FrK 22 σ τ
  | 0, fuel + 1, i, σ, n, den, h1, h2, h3, H, hp, hc, hd, hr => by
    unfold f_X2_laySelect_L34
    have hlt : hi < i := by omega
    rw [if_pos ((nLt (by omega) (by omega)).mpr hlt)]
    exact ⟨σ, n, den, rfl, EX.rf _ H, fun j h5 h6 => by omega, fun _ _ => rfl, FrK.rf 22 σ⟩
  | cnt + 1, fuel + 1, i, σ, n, den, h1, h2, h3, H, hp, hc, hd, hr => by
    unfold f_X2_laySelect_L34
    have hle : ¬ hi < i := by omega
    rw [if_neg (fun z => hle ((nLt (by omega) (by omega)).mp z))]
    obtain ⟨⟨z0, p1, p2, p3⟩, ⟨zo, g1, g2, g3⟩⟩ := hp i h2 (by omega)
    rw [xld_n (by omega) (by omega), obind, g2]
    obtain ⟨z1, τ1, n1, d1, e1, x1, y1, t1, f1⟩ := (and_ok N hN H g1 hc (by omega)).ex
    rw [e1, obind]
    dsimp only
    rw [xld_n (by omega) (by omega), obind, f1.at (by omega), p2]
    have hn1 := x1.2.2.1
    have hn10 := x1.2.1
    obtain ⟨z2, τ2, n2, d2, e2, x2, y2, t2, f2⟩ := (not_ok N hN x1.1 (show c < n1 by omega) (by omega)).ex
    rw [e2, obind]
    dsimp only
    have hn2 := x2.2.2.1
    have hn20 := x2.2.1
    obtain ⟨z3, τ3, n3, d3, e3, x3, y3, t3, f3⟩ := (and_ok N hN x2.1 (show z0 < n2 by omega) y2 (by omega)).ex
    rw [e3, obind]
    dsimp only
    have hn3 := x3.2.2.1
    have hn30 := x3.2.1
    obtain ⟨z4, τ4, n4, d4, e4, x4, y4, t4, f4⟩ := (or_ok N hN x3.1 (show z1 < n3 by omega) y3 (by omega)).ex
    rw [e4, obind]
    dsimp only
    have hn4 := x4.2.2.1
    have hn40 := x4.2.1
    rw [xst_n (by omega) (by omega), obind, nI_1]
    have hEX : EX n den τ4 n4 d4 4 := ((x1.tr x2 (Nat.le_refl _)).tr x3 (Nat.le_refl _)).tr x4 (by omega)
    have hfr : FrK 22 σ (sF τ4 22 i (nI z4)) := (((f1.K.tr f2.K).tr f3.K).tr f4.K).put
    have c5 : CN (sF τ4 22 i (nI z4)) n4 d4 := x4.1.put (by omega)
    obtain ⟨τ, n', den', E, X, G, O, F⟩ := sel_loop N hN (lo := lo) (ct := ct) hhi KO a b cnt fuel (i + 1) (sF τ4 22 i (nI z4)) n4 d4 (by omega) (by omega) (by omega) c5 (fun j j1 j2 => by
      obtain ⟨q1, q2⟩ := hp j j1 j2
      exact ⟨q1.up hEX.2.1 hEX.2.2.2 (hfr.2 28 j (by omega) (by omega) (by omega) (by omega) (by omega) (by omega) (by omega)), q2.up hEX.2.1 hEX.2.2.2 (hfr.2 29 j (by omega) (by omega) (by omega) (by omega) (by omega) (by omega) (by omega))⟩) (show c < n4 by omega) (by rw [hEX.2.2.2 c hc, hd]) (by omega)
    have hEX5 : EX n den (sF τ4 22 i (nI z4)) n4 d4 4 := ⟨c5, hEX.2⟩
    refine ⟨τ, n', den', E, hEX5.tr X (by omega), fun j j1 j2 => ?_, fun j hj => ?_, hfr.tr F⟩
    · by_cases hji : j = i
      · subst hji
        refine ⟨z4, by have := X.2.1; omega, by rw [O j (Or.inl (by omega)), sF_eq], ?_⟩
        rw [X.2.2.2 z4 y4, t4, x3.2.2.2 z1 (by omega), x2.2.2.2 z1 y1, t1, g3, hd, t3, x2.2.2.2 z0 (by omega), x1.2.2.2 z0 p1, p3, t2, x1.2.2.2 c hc, hd]
        rfl
      · exact G j (by omega) j2
    · rw [O j (by omega), sF_nb (by omega), f4.at (by omega), f3.at (by omega), f2.at (by omega), f1.at (by omega)]
theorem laySel_ok (N : Nat) (hN : 512 ≤ N) {lo w : Nat} (hw : 1 ≤ w) (hlw : lo + w ≤ 12) {σ : Wd} {n : Nat} {den : Nat → Nat} {c : Nat} (H : CN σ n den) (hpg : ∀ j, lo ≤ j → j ≤ lo + w - 1 → GV σ n den 26 j (tP j) ∧ GV σ n den 27 j (tG j)) (hc : c < n) (hcm : σ.1 4 7 = nI c) (hr : n + 12 * w ≤ 512) :
    LayR σ n den (12 * w) 2 lo w (den c) (f_X2_laySelect N (nI lo) (nI (lo + w - 1)) σ) := by
  unfold f_X2_laySelect
  have h27 := H.lt.1
  have h0 : den 0 = 25 := H.leaf (by omega)
  obtain ⟨z, τ, n1, d1, E, X, Y, T, G, O, F⟩ := ripple_ok N hN (K := 28) (Or.inr (Or.inl rfl)) (lo := lo) (hi := lo + w - 1) (c := 0) (by omega) (by omega) H hpg (by omega) (by omega)
  rw [show (0 : Int32) = nI 0 from rfl, E, obind]
  dsimp only
  have hn1 := X.2.2.1
  have hn0 := X.2.1
  have h1 : d1 1 = 26 := X.1.leaf (by omega)
  have hpg1 := GVs.up hpg X.2.1 X.2.2.2 (fun j => ⟨F.2 26 j (by omega) (by omega) (by omega) (by omega) (by omega) (by omega) (by omega), F.2 27 j (by omega) (by omega) (by omega) (by omega) (by omega) (by omega) (by omega)⟩)
  obtain ⟨z2, τ2, n2, d2, E2, X2, Y2, T2, G2, O2, F2⟩ := ripple_ok N hN (K := 29) (Or.inr (Or.inr rfl)) (lo := lo) (hi := lo + w - 1) (c := 1) (by omega) (by omega) X.1 hpg1 (by omega) (by omega)
  rw [show (1 : Int32) = nI 1 from rfl, E2, obind, hcm]
  dsimp only
  have hn2 := X2.2.2.1
  have hn20 := X2.2.1
  rw [h0] at G T
  rw [h1] at G2 T2
  obtain ⟨τ3, n3, d3, E3, X3, G3, O3, F3⟩ := sel_loop N hN (lo := lo) (hi := lo + w - 1) (ct := den c) (by omega) (f_X2_laySelect_J85 N) (nI z) (nI z2) (c := c) w N lo τ2 n2 d2 (by omega) (by omega) (by omega) X2.1 (fun j j1 j2 => ⟨(G j j1 j2).up X2.2.1 X2.2.2.2 (F2.2 28 j (by omega) (by omega) (by omega) (by omega) (by omega) (by omega) (by omega)), G2 j j1 j2⟩) (show c < n2 by omega) (by rw [X2.2.2.2 c (by omega), X.2.2.2 c hc]) (by omega)
  rw [E3]
  unfold f_X2_laySelect_J85
  have hn3 := X3.2.2.1
  have hn30 := X3.2.1
  obtain ⟨z4, τ4, n4, d4, e4, x4, y4, t4, f4⟩ := (and_ok N hN X3.1 (show z2 < n3 by omega) (show c < n3 by omega) (by omega)).ex
  rw [e4, obind]
  dsimp only
  have hn4 := x4.2.2.1
  have hn40 := x4.2.1
  obtain ⟨z5, τ5, n5, d5, e5, x5, y5, t5, f5⟩ := (or_ok N hN x4.1 (show z < n4 by omega) y4 (by omega)).ex
  rw [e5, obind]
  have hX3 : EX n2 d2 τ5 n5 d5 (4 * w + 2) := (X3.tr x4 (Nat.le_refl _)).tr x5 (by omega)
  have hX5 : EX n3 d3 τ5 n5 d5 2 := x4.tr x5 (by omega)
  refine ⟨z5, τ5, n5, d5, rfl, (X.tr X2 (Nat.le_refl _)).tr hX3 (by omega), y5, ?_, fun j j1 j2 => (G3 j j1 (by omega)).up hX5.2.1 hX5.2.2.2 (by rw [f5.at (by omega), f4.at (by omega)]), fun j hj => by rw [f5.at (by omega), f4.at (by omega), O3 j (by omega), F2.2 22 j (by omega) (by omega) (by omega) (by omega) (by omega) (by omega) (by omega), F.2 22 j (by omega) (by omega) (by omega) (by omega) (by omega) (by omega) (by omega)], by rw [f5.1, f4.1, F3.1, F2.1, F.1], fun a b h1 h2 h3 h4 h5 h6 h7 h8 h9 => ?_⟩
  · rw [t5, x4.2.2.2 z (by omega), X3.2.2.2 z (by omega), X2.2.2.2 z Y, T, t4, X3.2.2.2 z2 Y2, T2, X3.2.2.2 c (by omega), X2.2.2.2 c (by omega), X.2.2.2 c hc]
    show _ = tOr (rcar lo 25 w) (tAnd (rcar lo 26 w) (den c))
    rw [show lo + w - 1 + 1 - lo = w by omega]
  · rw [f5.2 a b h1 h2 h3 h4 h5 h9, f4.2 a b h1 h2 h3 h4 h5 h9, F3.2 a b h1 h2 h3 h4 h5 h6 h9, F2.2 a b h1 h2 h3 h4 h5 h8 h9, F.2 a b h1 h2 h3 h4 h5 h7 h9]
