theorem spP_fuel : ∀ (a b i j : Nat), j - i ≤ a → j - i ≤ b → spP a i j = spP b i j
  | 0, 0, i, j, _, _ => rfl
  | 0, b + 1, i, j, h1, h2 => by
    unfold spP
    rw [if_pos (by omega)]
  | a + 1, 0, i, j, h1, h2 => by
    unfold spP
    rw [if_pos (by omega)]
  | a + 1, b + 1, i, j, h1, h2 => by
    unfold spP
    by_cases h : j ≤ i
    · rw [if_pos h, if_pos h]
    · rw [if_neg h, if_neg h, spP_fuel a b i ((i + j) / 2) (by omega) (by omega), spP_fuel a b ((i + j) / 2 + 1) j (by omega) (by omega)]
theorem spG_fuel : ∀ (a b i j : Nat), j - i ≤ a → j - i ≤ b → spG a i j = spG b i j
  | 0, 0, i, j, _, _ => rfl
  | 0, b + 1, i, j, h1, h2 => by
    unfold spG
    rw [if_pos (by omega)]
  | a + 1, 0, i, j, h1, h2 => by
    unfold spG
    rw [if_pos (by omega)]
  | a + 1, b + 1, i, j, h1, h2 => by
    unfold spG
    by_cases h : j ≤ i
    · rw [if_pos h, if_pos h]
    · rw [if_neg h, if_neg h, spG_fuel a b i ((i + j) / 2) (by omega) (by omega), spG_fuel a b ((i + j) / 2 + 1) j (by omega) (by omega), spP_fuel a b ((i + j) / 2 + 1) j (by omega) (by omega)]
theorem spP_le {i j : Nat} (h : j ≤ i) : spP 8 i j = tP i := by unfold spP; rw [if_pos h]
theorem spG_le {i j : Nat} (h : j ≤ i) : spG 8 i j = tG i := by unfold spG; rw [if_pos h]
theorem spP_gt {i j : Nat} (h : i < j) (h5 : j - i ≤ 7) : spP 8 i j = tAnd (spP 8 i ((i + j) / 2)) (spP 8 ((i + j) / 2 + 1) j) := by
  rw [spP, if_neg (by omega), spP_fuel 7 8 i ((i + j) / 2) (by omega) (by omega), spP_fuel 7 8 ((i + j) / 2 + 1) j (by omega) (by omega)]
theorem spG_gt {i j : Nat} (h : i < j) (h5 : j - i ≤ 7) : spG 8 i j = tOr (spG 8 ((i + j) / 2 + 1) j) (tAnd (spP 8 ((i + j) / 2 + 1) j) (spG 8 i ((i + j) / 2))) := by
  rw [spG, if_neg (by omega), spG_fuel 7 8 i ((i + j) / 2) (by omega) (by omega), spG_fuel 7 8 ((i + j) / 2 + 1) j (by omega) (by omega), spP_fuel 7 8 ((i + j) / 2 + 1) j (by omega) (by omega)]
def bG (n : Nat) : Nat := if n ≤ 1 then 0 else 3 * n - 4
/-- what an operation gives, with its extension -/
def OpX (σ : Wd) (n : Nat) (den : Nat → Nat) (m t : Nat) (o : Option (Int32 × Wd)) : Prop := ∃ (z : Nat) (τ : Wd) (n' : Nat) (den' : Nat → Nat), o = some (nI z, τ) ∧ EX n den τ n' den' m ∧ z < n' ∧ den' z = t ∧ FrN σ τ
theorem OpX.mono {σ : Wd} {n : Nat} {den : Nat → Nat} {m m2 t : Nat} {o : Option (Int32 × Wd)} (h : OpX σ n den m t o) (hm : m ≤ m2) : OpX σ n den m2 t o := by
  obtain ⟨z, τ, n', den', h1, h2, h3⟩ := h
  exact ⟨z, τ, n', den', h1, ⟨h2.1, h2.2.1, by have := h2.2.2.1; omega, h2.2.2.2⟩, h3⟩
theorem span_ok (N : Nat) (hN : 512 ≤ N) : ∀ (d i j mq : Nat) (σ : Wd) (n : Nat) (den : Nat → Nat), j - i < d → j - i ≤ 5 → j < 12 → i < 12 → mq < 2 → CN σ n den → (∀ x, i ≤ x → x ≤ max i j → GV σ n den 26 x (tP x) ∧ GV σ n den 27 x (tG x)) → n + (if mq = 0 then j - i else bG (j + 1 - i)) ≤ 512 →
    OpX σ n den (if mq = 0 then j - i else bG (j + 1 - i)) (if mq = 0 then spP 8 i j else spG 8 i j) (f_X2_span N d (nI i) (nI j) (nI mq) σ)
  | 0, i, j, mq, σ, n, den, h1, _, _, _, _, _, _, _ => absurd h1 (Nat.not_lt_zero _)
  | d + 1, i, j, mq, σ, n, den, h1, h2, h3, h3i, h4, H, hpg, hr => by
    have h27 := H.lt
    unfold f_X2_span
    by_cases hij : i < j
    · rw [if_pos ((nLt (by omega) (by omega)).mpr hij), nI_add, show nI (i + j) / 2 = nI ((i + j) / 2) from nDiv2 (by omega), nI_1, show (0 : Int32) = nI 0 from rfl, show (1 : Int32) = nI 1 from rfl]
      have hpgs : ∀ (a b : Nat), i ≤ a → b ≤ j → a ≤ j → ∀ {τ : Wd} {n1 : Nat} {d1 : Nat → Nat} {m : Nat}, EX n den τ n1 d1 m → (∀ x, τ.1 26 x = σ.1 26 x ∧ τ.1 27 x = σ.1 27 x) → ∀ x, a ≤ x → x ≤ max a b → GV τ n1 d1 26 x (tP x) ∧ GV τ n1 d1 27 x (tG x) := by
        intro a b ha hb hab τ n1 d1 m hX hm x hx1 hx2
        obtain ⟨q1, q2⟩ := hpg x (by omega) (by omega)
        exact ⟨q1.up hX.2.1 hX.2.2.2 (hm x).1, q2.up hX.2.1 hX.2.2.2 (hm x).2⟩
      have hEr : ∀ (a b : Nat), i ≤ a → b ≤ j → a ≤ j → ∀ x, a ≤ x → x ≤ max a b → GV σ n den 26 x (tP x) ∧ GV σ n den 27 x (tG x) := fun a b ha hb hab => hpgs a b ha hb hab (EX.rf 0 H) (fun _ => ⟨rfl, rfl⟩)
      have hA := span_ok N hN d ((i + j) / 2 + 1) j 0 σ n den (by omega) (by omega) h3 (by omega) (by omega) H (hEr _ _ (by omega) (by omega) (by omega)) (by
        rw [if_pos rfl]
        by_cases hm : mq = 0
        · rw [if_pos hm] at hr; omega
        · rw [if_neg hm] at hr; unfold bG at hr; split at hr <;> omega)
      rw [if_pos rfl, if_pos rfl] at hA
      obtain ⟨z1, τ1, n1, d1, e1, x1, y1, t1, f1⟩ := hA
      rw [e1, obind]
      dsimp only
      have hn1 := x1.2.2.1
      have hn10 := x1.2.1
      have hm1 : ∀ x, τ1.1 26 x = σ.1 26 x ∧ τ1.1 27 x = σ.1 27 x := fun x => ⟨f1.at (by omega), f1.at (by omega)⟩
      by_cases hm : mq = 0
      · subst hm
        rw [if_pos rfl] at hr
        simp only [if_true]
        have hB := span_ok N hN d i ((i + j) / 2) 0 τ1 n1 d1 (by omega) (by omega) (by omega) h3i (by omega) x1.1 (hpgs _ _ (by omega) (by omega) (by omega) x1 hm1) (by rw [if_pos rfl]; omega)
        rw [if_pos rfl, if_pos rfl] at hB
        obtain ⟨z2, τ2, n2, d2, e2, x2, y2, t2, f2⟩ := hB
        rw [e2, obind]
        dsimp only
        have hn2 := x2.2.2.1
        have hn20 := x2.2.1
        obtain ⟨z3, τ3, n3, d3, e3, x3, y3, t3, f3⟩ := (and_ok N hN x2.1 (show z1 < n2 by omega) y2 (by omega)).ex
        rw [e3, obind]
        refine ⟨z3, τ3, n3, d3, rfl, ⟨((x1.tr x2 (Nat.le_refl _)).tr x3 (Nat.le_refl _)).1, ((x1.tr x2 (Nat.le_refl _)).tr x3 (Nat.le_refl _)).2.1, by have := x3.2.2.1; omega, ((x1.tr x2 (Nat.le_refl _)).tr x3 (Nat.le_refl _)).2.2.2⟩, y3, ?_, (f1.tr f2).tr f3⟩
        rw [t3, x2.2.2.2 z1 y1, t1, t2, spP_gt hij (by omega), tAnd_comm]
      · have hmk : mq = 1 := by omega
        subst hmk
        rw [if_neg (by omega)] at hr
        rw [if_neg (show ¬ nI 1 = nI 0 by decide), if_neg (by omega), if_neg (by omega)]
        have hb0 : bG (j + 1 - i) = 3 * (j + 1 - i) - 4 := by unfold bG; rw [if_neg (by omega)]
        rw [hb0] at hr ⊢
        have hbh : bG (j + 1 - ((i + j) / 2 + 1)) = if j + 1 - ((i + j) / 2 + 1) ≤ 1 then 0 else 3 * (j + 1 - ((i + j) / 2 + 1)) - 4 := rfl
        have hbl : bG ((i + j) / 2 + 1 - i) = if (i + j) / 2 + 1 - i ≤ 1 then 0 else 3 * ((i + j) / 2 + 1 - i) - 4 := rfl
        have hbsum : (j - ((i + j) / 2 + 1)) + bG (j + 1 - ((i + j) / 2 + 1)) + bG ((i + j) / 2 + 1 - i) + 2 ≤ 3 * (j + 1 - i) - 4 := by
          rw [hbh, hbl]
          split <;> split <;> omega
        have hB := span_ok N hN d ((i + j) / 2 + 1) j 1 τ1 n1 d1 (by omega) (by omega) h3 (by omega) (by omega) x1.1 (hpgs _ _ (by omega) (by omega) (by omega) x1 hm1) (by rw [if_neg (by omega)]; omega)
        rw [if_neg (by omega), if_neg (by omega)] at hB
        obtain ⟨z2, τ2, n2, d2, e2, x2, y2, t2, f2⟩ := hB
        rw [e2, obind]
        dsimp only
        have hn2 := x2.2.2.1
        have hn20 := x2.2.1
        have x12 : EX n den τ2 n2 d2 (j - ((i + j) / 2 + 1) + bG (j + 1 - ((i + j) / 2 + 1))) := x1.tr x2 (Nat.le_refl _)
        have hC := span_ok N hN d i ((i + j) / 2) 1 τ2 n2 d2 (by omega) (by omega) (by omega) h3i (by omega) x2.1 (hpgs _ _ (by omega) (by omega) (by omega) x12 (fun x => ⟨by rw [f2.at (by omega), (hm1 x).1], by rw [f2.at (by omega), (hm1 x).2]⟩)) (by rw [if_neg (by omega)]; omega)
        rw [if_neg (by omega), if_neg (by omega)] at hC
        obtain ⟨z3, τ3, n3, d3, e3, x3, y3, t3, f3⟩ := hC
        rw [e3, obind]
        dsimp only
        have hn3 := x3.2.2.1
        have hn30 := x3.2.1
        obtain ⟨z4, τ4, n4, d4, e4, x4, y4, t4, f4⟩ := (and_ok N hN x3.1 (show z1 < n3 by omega) y3 (by omega)).ex
        rw [e4, obind]
        dsimp only
        have hn4 := x4.2.2.1
        have hn40 := x4.2.1
        obtain ⟨z5, τ5, n5, d5, e5, x5, y5, t5, f5⟩ := (or_ok N hN x4.1 (show z2 < n4 by omega) y4 (by omega)).ex
        rw [e5, obind]
        have hX := ((x12.tr x3 (Nat.le_refl _)).tr x4 (Nat.le_refl _)).tr x5 (Nat.le_refl _)
        refine ⟨z5, τ5, n5, d5, rfl, ⟨hX.1, hX.2.1, by have := hX.2.2.1; omega, hX.2.2.2⟩, y5, ?_, (((f1.tr f2).tr f3).tr f4).tr f5⟩
        rw [t5, x4.2.2.2 z2 (by omega), x3.2.2.2 z2 y2, t2, t4, x3.2.2.2 z1 (by omega), x2.2.2.2 z1 y1, t1, t3, spG_gt hij (by omega)]
    · rw [if_neg (fun z => hij ((nLt (by omega) (by omega)).mp z))]
      obtain ⟨⟨zp, p1, p2, p3⟩, ⟨zg, g1, g2, g3⟩⟩ := hpg i (Nat.le_refl _) (by omega)
      by_cases hm : mq = 0
      · subst hm
        rw [if_pos (show nI 0 = 0 from rfl), xld_n (by omega) (by omega), obind, p2]
        exact ⟨zp, σ, n, den, rfl, EX.rf _ H, p1, by rw [p3, if_pos rfl, spP_le (by omega)], FrN.rf σ⟩
      · rw [if_neg (show ¬ nI mq = 0 from neN (b := 0) (by omega) (by omega) hm), xld_n (by omega) (by omega), obind, g2]
        exact ⟨zg, σ, n, den, rfl, EX.rf _ H, g1, by rw [g3, if_neg hm, spG_le (by omega)], FrN.rf σ⟩
theorem LayR.mono {σ : Wd} {n : Nat} {den : Nat → Nat} {m m2 kind lo w c : Nat} {o : Option (Int32 × Wd)} (h : LayR σ n den m kind lo w c o) (hm : m ≤ m2) : LayR σ n den m2 kind lo w c o := by
  obtain ⟨z, τ, n', den', h1, h2, h3⟩ := h
  exact ⟨z, τ, n', den', h1, ⟨h2.1, h2.2.1, by have := h2.2.2.1; omega, h2.2.2.2⟩, h3⟩
theorem ahead_loop (N : Nat) (hN : 512 ≤ N) {lo hi ct c : Nat} (hhi : hi < 12) (hlh : hi - lo ≤ 5) (KO : Int32 → Wd → Option (Int32 × Wd)) : ∀ (cnt fuel i : Nat) (σ : Wd) (n : Nat) (den : Nat → Nat) (y : Nat) (room : Nat),
    i + cnt = hi + 1 → lo ≤ i → cnt < fuel → CN σ n den → (∀ j, lo ≤ j → j ≤ hi → GV σ n den 26 j (tP j) ∧ GV σ n den 27 j (tG j)) → c < n → den c = ct → y < n → den y = lcar lo ct (i - lo) → room + (2 * (i - lo) * (i - lo) + (i - lo)) = 2 * (hi + 1 - lo) * (hi + 1 - lo) + (hi + 1 - lo) → n + room ≤ 512 →
    ∃ (z : Nat) (τ : Wd) (n' : Nat) (den' : Nat → Nat), f_X2_layAhead_L11 N KO fuel (nI lo) (nI hi) (nI c) (nI y) (nI i) σ = KO (nI z) τ ∧ EX n den τ n' den' room ∧ z < n' ∧ den' z = lcar lo ct (hi + 1 - lo) ∧ (∀ j, i ≤ j → j ≤ hi → GV τ n' den' 22 j (bsum 3 lo ct j)) ∧ (∀ j, (j < i ∨ hi < j) → τ.1 22 j = σ.1 22 j) ∧ FrK 22 σ τ
  | 0, fuel + 1, i, σ, n, den, y, room, h1, h2, h3, H, hpg, hc, hd, hy, hdy, hrm, hr => by
    unfold f_X2_layAhead_L11
    have hlt : hi < i := by omega
    rw [if_pos ((nLt (by omega) (by omega)).mpr hlt)]
    exact ⟨y, σ, n, den, rfl, EX.rf _ H, hy, by rw [hdy, show i = hi + 1 by omega], fun j h5 h6 => by omega, fun _ _ => rfl, FrK.rf 22 σ⟩
  | cnt + 1, fuel + 1, i, σ, n, den, y, room, h1, h2, h3, H, hpg, hc, hd, hy, hdy, hrm, hr => by
    obtain ⟨k, hk⟩ : ∃ k, i = lo + k := ⟨i - lo, by omega⟩
    obtain ⟨w, hw⟩ : ∃ w, hi + 1 = lo + w := ⟨hi + 1 - lo, by omega⟩
    rw [show i - lo = k by omega, show hi + 1 - lo = w by omega] at hrm
    have hkw : k + 1 ≤ w := by omega
    have hsq : 2 * (k + 1) * (k + 1) + (k + 1) = 2 * k * k + k + (4 * k + 3) := by
      simp only [Nat.mul_add, Nat.add_mul]; omega
    have hsq2 : 2 * (k + 1) * (k + 1) + (k + 1) ≤ 2 * w * w + w := by
      have := Nat.mul_le_mul (Nat.mul_le_mul (Nat.le_refl 2) hkw) hkw
      omega
    unfold f_X2_layAhead_L11
    have hle : ¬ hi < i := by omega
    rw [if_neg (fun z => hle ((nLt (by omega) (by omega)).mp z))]
    obtain ⟨⟨zp, p1, p2, p3⟩, -⟩ := hpg i h2 (by omega)
    rw [xld_n (by omega) (by omega), obind, p2]
    obtain ⟨z1, τ1, n1, d1, e1, x1, y1, t1, f1⟩ := (xor_ok N hN H p1 hy (by omega)).ex
    rw [e1, obind]
    dsimp only
    have hn1 := x1.2.2.1
    have hn10 := x1.2.1
    rw [xst_n (by omega) (by omega), obind]
    have c3 : CN (sF τ1 22 i (nI z1)) n1 d1 := x1.1.put (by omega)
    have x1' : EX n den (sF τ1 22 i (nI z1)) n1 d1 1 := ⟨c3, x1.2⟩
    have hm1 : ∀ x, (sF τ1 22 i (nI z1)).1 26 x = σ.1 26 x ∧ (sF τ1 22 i (nI z1)).1 27 x = σ.1 27 x := fun x => ⟨by rw [sF_ne (by omega), f1.at (by omega)], by rw [sF_ne (by omega), f1.at (by omega)]⟩
    have hpg1 := GVs.up hpg x1'.2.1 x1'.2.2.2 hm1
    have hA := span_ok N hN 9 lo i 1 _ n1 d1 (by omega) (by omega) (by omega) (by omega) (by omega) c3 (fun x q1 q2 => hpg1 x (by omega) (by omega)) (by
      rw [if_neg (by omega)]; unfold bG; split <;> omega)
    rw [if_neg (by omega), if_neg (by omega)] at hA
    obtain ⟨z2, τ2, n2, d2, e2, x2, y2, t2, f2⟩ := hA
    rw [show (1 : Int32) = nI 1 from rfl, show (0 : Int32) = nI 0 from rfl, e2, obind]
    dsimp only
    have hbk : bG (i + 1 - lo) ≤ 3 * k := by unfold bG; split <;> omega
    have hn2 := x2.2.2.1
    have hn20 := x2.2.1
    have hpg2 := GVs.up hpg1 x2.2.1 x2.2.2.2 (fun x => ⟨f2.at (by omega), f2.at (by omega)⟩)
    have hB := span_ok N hN 9 lo i 0 τ2 n2 d2 (by omega) (by omega) (by omega) (by omega) (by omega) x2.1 (fun x q1 q2 => hpg2 x (by omega) (by omega)) (by rw [if_pos rfl]; omega)
    rw [if_pos rfl, if_pos rfl] at hB
    obtain ⟨z3, τ3, n3, d3, e3, x3, y3, t3, f3⟩ := hB
    rw [e3, obind]
    dsimp only
    have hn3 := x3.2.2.1
    have hn30 := x3.2.1
    obtain ⟨z4, τ4, n4, d4, e4, x4, y4, t4, f4⟩ := (and_ok N hN x3.1 y3 (show c < n3 by omega) (by omega)).ex
    rw [e4, obind]
    dsimp only
    have hn4 := x4.2.2.1
    have hn40 := x4.2.1
    obtain ⟨z5, τ5, n5, d5, e5, x5, y5, t5, f5⟩ := (or_ok N hN x4.1 (show z2 < n4 by omega) y4 (by omega)).ex
    rw [e5, obind, show nI i + nI 1 = nI (i + 1) from nI_add i 1]
    dsimp only
    have hn5 := x5.2.2.1
    have hn50 := x5.2.1
    have hX2 : EX n1 d1 τ5 n5 d5 (bG (i + 1 - lo) + (i - lo) + 1 + 1) := ((x2.tr x3 (Nat.le_refl _)).tr x4 (Nat.le_refl _)).tr x5 (Nat.le_refl _)
    have hX5 : EX n den τ5 n5 d5 (4 * k + 3) := x1'.tr hX2 (by omega)
    have hfr : FrK 22 σ τ5 := ((((f1.K.put).tr f2.K).tr f3.K).tr f4.K).tr f5.K
    have hd5 : d5 z5 = lcar lo ct (i + 1 - lo) := by
      rw [sub1 h2, lcar, show lo + (i - lo) = i by omega, t5, x4.2.2.2 z2 (by omega), x3.2.2.2 z2 y2, t2, t4, t3, x3.2.2.2 c (by omega), x2.2.2.2 c (by omega), x1.2.2.2 c hc, hd]
    obtain ⟨z, τ, n', den', E, X, Y, T, G, O, F⟩ := ahead_loop N hN (lo := lo) (ct := ct) (c := c) hhi hlh KO cnt fuel (i + 1) τ5 n5 d5 z5 (room - (4 * k + 3)) (by omega) (by omega) (by omega) x5.1 (GVs.up hpg hX5.2.1 hX5.2.2.2 (fun x => ⟨hfr.2 26 x (by omega) (by omega) (by omega) (by omega) (by omega) (by omega) (by omega), hfr.2 27 x (by omega) (by omega) (by omega) (by omega) (by omega) (by omega) (by omega)⟩)) (show c < n5 by omega) (by rw [hX5.2.2.2 c hc, hd]) y5 hd5 (by
      rw [show i + 1 - lo = k + 1 by omega, show hi + 1 - lo = w by omega]; omega) (by omega)
    refine ⟨z, τ, n', den', E, hX5.tr X (by omega), Y, T, fun j j1 j2 => ?_, fun j hj => ?_, hfr.tr F⟩
    · by_cases hji : j = i
      · subst hji
        refine ⟨z1, by have := X.2.1; omega, by rw [O j (Or.inl (by omega)), f5.at (by omega), f4.at (by omega), f3.at (by omega), f2.at (by omega), sF_eq], ?_⟩
        rw [X.2.2.2 z1 (by omega), hX2.2.2.2 z1 y1, t1, p3, hdy]
        rfl
      · exact G j (by omega) j2
    · rw [O j (by omega), f5.at (by omega), f4.at (by omega), f3.at (by omega), f2.at (by omega), sF_nb (by omega), f1.at (by omega)]
theorem layAh_ok (N : Nat) (hN : 512 ≤ N) {lo w : Nat} (hw : 1 ≤ w) (hw6 : w ≤ 6) (hlw : lo + w ≤ 12) {σ : Wd} {n : Nat} {den : Nat → Nat} {c : Nat} (H : CN σ n den) (hpg : ∀ j, lo ≤ j → j ≤ lo + w - 1 → GV σ n den 26 j (tP j) ∧ GV σ n den 27 j (tG j)) (hc : c < n) (hcm : σ.1 4 7 = nI c) (hr : n + 14 * w ≤ 512) :
    LayR σ n den (14 * w) 3 lo w (den c) (f_X2_layAhead N (nI lo) (nI (lo + w - 1)) σ) := by
  unfold f_X2_layAhead
  have hsq : 2 * w * w + w ≤ 14 * w := by
    have := Nat.mul_le_mul_right w (show 2 * w ≤ 12 by omega)
    omega
  rw [hcm]
  obtain ⟨z, τ, n', den', E, X, Y, T, G, O, F⟩ := ahead_loop N hN (lo := lo) (hi := lo + w - 1) (ct := den c) (c := c) (by omega) (by omega) (f_X2_layAhead_J70 N) w N lo σ n den c (2 * w * w + w) (by omega) (Nat.le_refl _) (by omega) H hpg hc rfl hc (by rw [Nat.sub_self]; rfl) (by
    rw [Nat.sub_self, show lo + w - 1 + 1 - lo = w by omega]; rfl) (by omega)
  rw [E]
  refine ⟨z, τ, n', den', rfl, ⟨X.1, X.2.1, by have := X.2.2.1; omega, X.2.2.2⟩, Y, by rw [T, show lo + w - 1 + 1 - lo = w by omega]; rfl, fun j j1 j2 => G j j1 (by omega), fun j hj => O j (by omega), F.1, fun a b h1 h2 h3 h4 h5 h6 h7 h8 h9 => F.2 a b h1 h2 h3 h4 h5 h6 h9⟩
