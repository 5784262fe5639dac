/-- the search's end: a gate of that kind and of these parts -/
theorem made_find (N : Nat) (hN : 512 ≤ N) {σ : Wd} {n : Nat} {den : Nat → Nat} (H : CN σ n den) {s lo hi : Nat} (hs : s < 4) (hlh : lo ≤ hi) (hhi : hi < n) (hroom : n < 512) (h0 : s = 0 → lo = hi) :
    NOp σ n den 1 (mkT s (den lo) (den hi)) ((xld σ 23 512 (nI hi)).bind fun v => f_X2_made_L65 N (f_X2_made_J121 N) N (nI s) (nI lo) (nI hi) v 0 σ) := by
  obtain ⟨kd, l, r, nw, bf, HN⟩ := H
  obtain ⟨hNT, hn, hsz, hg, hnw, hc1, hc2⟩ := id HN
  rw [xld_n (by omega) (by omega), obind, hnw hi hhi]
  have key := made_loop N (f_X2_made_J121 N) HN (s := s) (lo := lo) (hi := hi) hs (by omega) N (nw hi) 0
  have hbnd : nw hi < n ∨ nw hi < 27 := by
    rcases hc1 hi hhi with ⟨b1, b2⟩ | ⟨b1, b2, b3, b4⟩
    · exact Or.inr b1
    · exact Or.inl b2
  have h27 := hNT.1
  rcases key (by omega) (by omega) (fun z => by
      rcases hc1 hi hhi with ⟨b1, b2⟩ | ⟨b1, b2, b3, b4⟩
      · omega
      · exact ⟨b2, b3⟩) (fun k k1 k2 k3 k4 k5 => by
      rcases hc1 hi hhi with ⟨b1, b2⟩ | ⟨b1, b2, b3, b4⟩
      · exact absurd k3 (b2 k k1 k2)
      · exact b4 k k1 k2 k3) with ⟨k, k1, k2, k3, k4, k5, k6⟩ | ⟨hno, h6⟩
  · refine ⟨k, σ, n, den, k6, ⟨kd, l, r, nw, bf, HN⟩, Nat.le_refl _, by omega, fun _ _ => rfl, k2, ?_, FrN.rf σ⟩
    rw [(hNT.2.2.1 k k1 k2).2.2.2, k3, k4, k5]
  · obtain ⟨τ, e1, e2, e3⟩ := made_new N HN hs hlh hhi hroom h0 hno
    refine ⟨n, τ, n + 1, _, h6.trans e1, e2, by omega, by omega, fun k hk => by rw [if_neg (by omega)], by omega, by rw [if_pos rfl], e3⟩
theorem made_J22 (N : Nat) (hN : 512 ≤ N) {σ : Wd} {n : Nat} {den : Nat → Nat} (H : CN σ n den) {s lo hi : Nat} (hs : s < 4) (hlh : lo ≤ hi) (hhi : hi < n) (hroom : n < 512) (h0 : s = 0 → lo = hi) :
    NOp σ n den 1 (if s = 0 ∧ 27 ≤ den hi ∧ tK (den hi) = 0 then tA (den hi) else mkT s (den lo) (den hi)) (f_X2_made_J22 N (nI s) (nI lo) (nI hi) σ) := by
  have F := made_find N hN H hs hlh hhi hroom h0
  obtain ⟨kd, l, r, nw, bf, HN⟩ := id H
  obtain ⟨hNT, hn, hsz, hg, hnw, hc1, hc2⟩ := id HN
  unfold f_X2_made_J22
  by_cases hs0 : s = 0
  · rw [if_pos (show nI s = 0 by rw [hs0]; rfl)]
    by_cases hh : hi < 27
    · rw [if_pos (show nI hi < 27 from (nLt (b := 27) (by omega) (by omega)).mpr hh), if_neg (fun z => by
        have := (hNT.den_ge lfC_ok hhi).mp z.2.1; omega)]
      exact F
    · rw [if_neg (show ¬ nI hi < 27 from fun z => hh ((nLt (b := 27) (by omega) (by omega)).mp z)), xld_n (by omega) (by omega), obind, (hg hi (by omega) hhi).1]
      obtain ⟨a1, a2, a3, a4⟩ := hNT.2.2.1 hi (by omega) hhi
      obtain ⟨e1, e2, e3, e4, e5, e6⟩ := hg hi (by omega) hhi
      have hk : tK (den hi) = kd hi := by rw [a4, tK_mk _ _ a1]
      by_cases hk0 : kd hi = 0
      · rw [if_pos (show nI (kd hi) = 0 by rw [hk0]; rfl), if_pos ⟨hs0, (hNT.den_ge lfC_ok hhi).mpr (by omega), hk.trans hk0⟩, xld_n (by omega) (by omega), obind, e2]
        refine ⟨l hi, σ, n, den, rfl, H, Nat.le_refl _, by omega, fun _ _ => rfl, by omega, ?_, FrN.rf σ⟩
        rw [a4, tA_mk _ _ a1, ← e6 hk0, Nat.min_self]
      · rw [if_neg (show ¬ nI (kd hi) = 0 from fun z => hk0 ((nEq (b := 0) (by omega) (by omega)).mp z)), if_neg (fun z => hk0 (hk ▸ z.2.2))]
        exact F
  · rw [if_neg (show ¬ nI s = 0 from fun z => hs0 ((nEq (b := 0) (by omega) (by omega)).mp z)), if_neg (fun z => hs0 z.1)]
    exact F
theorem made_ok (N : Nat) (hN : 512 ≤ N) {σ : Wd} {n : Nat} {den : Nat → Nat} (H : CN σ n den) {s x y : Nat} (hs : s < 4) (hx : x < n) (hy : y < n) (hroom : n < 512) (h0 : s = 0 → x = y) :
    NOp σ n den 1 (if s = 0 ∧ 27 ≤ den x ∧ tK (den x) = 0 then tA (den x) else mkT s (den x) (den y)) (f_X2_made N (nI s) (nI x) (nI y) σ) := by
  have hn : n ≤ 512 := by obtain ⟨kd, l, r, nw, bf, HN⟩ := H; exact HN.2.1
  unfold f_X2_made f_X2_made_J10
  by_cases hxy : y ≤ x
  · rw [if_pos ((nLe (by omega) (by omega)).mpr hxy), if_pos ((nLe (by omega) (by omega)).mpr hxy)]
    have := made_J22 N hN H hs hxy hx hroom (fun z => (h0 z).symm)
    rw [mkT_comm s (den x) (den y)]
    exact this
  · rw [if_neg (fun z => hxy ((nLe (by omega) (by omega)).mp z)), if_neg (fun z => hxy ((nLe (by omega) (by omega)).mp z))]
    have hne : ¬ s = 0 := fun z => hxy (by rw [h0 z]; exact Nat.le_refl _)
    have := made_J22 N hN H hs (show x ≤ y by omega) hy hroom h0
    rw [if_neg (fun z => hne z.1)] at this ⊢
    exact this
theorem NOp.ret {σ : Wd} {n : Nat} {den : Nat → Nat} {m t : Nat} {o : Option (Int32 × Wd)} (h : NOp σ n den m t o) : NOp σ n den m t (o.bind fun p => some (p.1, p.2)) := by
  obtain ⟨z, τ, n', den', e, h2⟩ := h
  exact ⟨z, τ, n', den', by rw [e]; rfl, h2⟩
theorem NOp.here {σ : Wd} {n : Nat} {den : Nat → Nat} {z m t : Nat} (H : CN σ n den) (hz : z < n) (ht : den z = t) : NOp σ n den m t (some (nI z, σ)) := ⟨z, σ, n, den, rfl, H, Nat.le_refl _, Nat.le_add_right _ _, fun _ _ => rfl, hz, ht, FrN.rf σ⟩
theorem CN.lt {σ : Wd} {n : Nat} {den : Nat → Nat} (H : CN σ n den) : 27 ≤ n ∧ n ≤ 512 := by obtain ⟨kd, l, r, nw, bf, HN⟩ := H; exact ⟨HN.1.1, HN.2.1⟩
theorem CN.leaf {σ : Wd} {n : Nat} {den : Nat → Nat} (H : CN σ n den) {k : Nat} (hk : k < 27) : den k = lfC k := by obtain ⟨kd, l, r, nw, bf, HN⟩ := H; exact HN.1.2.1 k hk
theorem CN.inj {σ : Wd} {n : Nat} {den : Nat → Nat} (H : CN σ n den) {j k : Nat} (hj : j < n) (hk : k < n) (h : den j = den k) : j = k := by obtain ⟨kd, l, r, nw, bf, HN⟩ := H; exact HN.1.2.2.2 j k hj hk h
/-- gate 0 is zero, gate 1 is one, and no other -/
theorem CN.z {σ : Wd} {n : Nat} {den : Nat → Nat} (H : CN σ n den) {k : Nat} (hk : k < n) : (den k = 25 ↔ k = 0) ∧ (den k = 26 ↔ k = 1) := by
  have h27 := H.lt.1
  have h0 : den 0 = 25 := H.leaf (by omega)
  have h1 : den 1 = 26 := H.leaf (by omega)
  exact ⟨⟨fun h => H.inj hk (by omega) (h.trans h0.symm), fun h => h ▸ h0⟩, ⟨fun h => H.inj hk (by omega) (h.trans h1.symm), fun h => h ▸ h1⟩⟩
theorem eqN {a b : Nat} (ha : a < 2147483648) (hb : b < 2147483648) (h : a = b) : nI a = nI b := by rw [h]
theorem neN {a b : Nat} (ha : a < 2147483648) (hb : b < 2147483648) (h : ¬ a = b) : ¬ nI a = nI b := fun z => h ((nEq ha hb).mp z)
theorem not_ok (N : Nat) (hN : 512 ≤ N) {σ : Wd} {n : Nat} {den : Nat → Nat} (H : CN σ n den) {x : Nat} (hx : x < n) (hroom : n < 512) : NOp σ n den 1 (tNot (den x)) (f_X2_not N (nI x) σ) := by
  have h27 := H.lt
  unfold f_X2_not tNot
  by_cases h0 : x = 0
  · rw [if_pos (show nI x = 0 from eqN (b := 0) (by omega) (by omega) h0), if_pos ((H.z hx).1.mpr h0)]
    exact NOp.here (z := 1) H (by omega) (H.leaf (by omega))
  · rw [if_neg (show ¬ nI x = 0 from neN (b := 0) (by omega) (by omega) h0), if_neg (fun z => h0 ((H.z hx).1.mp z))]
    by_cases h1 : x = 1
    · rw [if_pos (show nI x = 1 from eqN (b := 1) (by omega) (by omega) h1), if_pos ((H.z hx).2.mpr h1)]
      exact NOp.here (z := 0) H (by omega) (H.leaf (by omega))
    · rw [if_neg (show ¬ nI x = 1 from neN (b := 1) (by omega) (by omega) h1), if_neg (fun z => h1 ((H.z hx).2.mp z))]
      have := made_ok N hN H (s := 0) (by omega) hx hx hroom (fun _ => rfl)
      simp only [true_and] at this
      exact this.ret
theorem and_ok (N : Nat) (hN : 512 ≤ N) {σ : Wd} {n : Nat} {den : Nat → Nat} (H : CN σ n den) {x y : Nat} (hx : x < n) (hy : y < n) (hroom : n < 512) : NOp σ n den 1 (tAnd (den x) (den y)) (f_X2_and N (nI x) (nI y) σ) := by
  have h27 := H.lt
  unfold f_X2_and tAnd
  by_cases h0 : x = 0
  · rw [if_pos (show nI x = 0 from eqN (b := 0) (by omega) (by omega) h0), if_pos (Or.inl ((H.z hx).1.mpr h0))]
    exact NOp.here (z := 0) H (by omega) (H.leaf (by omega))
  · rw [if_neg (show ¬ nI x = 0 from neN (b := 0) (by omega) (by omega) h0)]
    by_cases h1 : y = 0
    · rw [if_pos (show nI y = 0 from eqN (b := 0) (by omega) (by omega) h1), if_pos (Or.inr ((H.z hy).1.mpr h1))]
      exact NOp.here (z := 0) H (by omega) (H.leaf (by omega))
    · rw [if_neg (show ¬ nI y = 0 from neN (b := 0) (by omega) (by omega) h1), if_neg (fun z => z.elim (fun z => h0 ((H.z hx).1.mp z)) (fun z => h1 ((H.z hy).1.mp z)))]
      by_cases h2 : x = 1
      · rw [if_pos (show nI x = 1 from eqN (b := 1) (by omega) (by omega) h2), if_pos ((H.z hx).2.mpr h2)]
        exact NOp.here H hy rfl
      · rw [if_neg (show ¬ nI x = 1 from neN (b := 1) (by omega) (by omega) h2), if_neg (fun z => h2 ((H.z hx).2.mp z))]
        by_cases h3 : y = 1
        · rw [if_pos (show nI y = 1 from eqN (b := 1) (by omega) (by omega) h3), if_pos (Or.inl ((H.z hy).2.mpr h3))]
          exact NOp.here H hx rfl
        · rw [if_neg (show ¬ nI y = 1 from neN (b := 1) (by omega) (by omega) h3)]
          by_cases h4 : x = y
          · rw [if_pos (eqN (by omega) (by omega) h4), if_pos (Or.inr (by rw [h4]))]
            exact NOp.here H hx rfl
          · rw [if_neg (neN (by omega) (by omega) h4), if_neg (fun z => z.elim (fun z => h3 ((H.z hy).2.mp z)) (fun z => h4 (H.inj hx hy z)))]
            have := made_ok N hN H (s := 1) (by omega) hx hy hroom (fun z => by omega)
            rw [if_neg (fun z => by omega)] at this
            exact this.ret
theorem or_ok (N : Nat) (hN : 512 ≤ N) {σ : Wd} {n : Nat} {den : Nat → Nat} (H : CN σ n den) {x y : Nat} (hx : x < n) (hy : y < n) (hroom : n < 512) : NOp σ n den 1 (tOr (den x) (den y)) (f_X2_or N (nI x) (nI y) σ) := by
  have h27 := H.lt
  unfold f_X2_or tOr
  by_cases h0 : x = 1
  · rw [if_pos (show nI x = 1 from eqN (b := 1) (by omega) (by omega) h0), if_pos (Or.inl ((H.z hx).2.mpr h0))]
    exact NOp.here (z := 1) H (by omega) (H.leaf (by omega))
  · rw [if_neg (show ¬ nI x = 1 from neN (b := 1) (by omega) (by omega) h0)]
    by_cases h1 : y = 1
    · rw [if_pos (show nI y = 1 from eqN (b := 1) (by omega) (by omega) h1), if_pos (Or.inr ((H.z hy).2.mpr h1))]
      exact NOp.here (z := 1) H (by omega) (H.leaf (by omega))
    · rw [if_neg (show ¬ nI y = 1 from neN (b := 1) (by omega) (by omega) h1), if_neg (fun z => z.elim (fun z => h0 ((H.z hx).2.mp z)) (fun z => h1 ((H.z hy).2.mp z)))]
      by_cases h2 : x = 0
      · rw [if_pos (show nI x = 0 from eqN (b := 0) (by omega) (by omega) h2), if_pos ((H.z hx).1.mpr h2)]
        exact NOp.here H hy rfl
      · rw [if_neg (show ¬ nI x = 0 from neN (b := 0) (by omega) (by omega) h2), if_neg (fun z => h2 ((H.z hx).1.mp z))]
        by_cases h3 : y = 0
        · rw [if_pos (show nI y = 0 from eqN (b := 0) (by omega) (by omega) h3), if_pos (Or.inl ((H.z hy).1.mpr h3))]
          exact NOp.here H hx rfl
        · rw [if_neg (show ¬ nI y = 0 from neN (b := 0) (by omega) (by omega) h3)]
          by_cases h4 : x = y
          · rw [if_pos (eqN (by omega) (by omega) h4), if_pos (Or.inr (by rw [h4]))]
            exact NOp.here H hx rfl
          · rw [if_neg (neN (by omega) (by omega) h4), if_neg (fun z => z.elim (fun z => h3 ((H.z hy).1.mp z)) (fun z => h4 (H.inj hx hy z)))]
            have := made_ok N hN H (s := 2) (by omega) hx hy hroom (fun z => by omega)
            rw [if_neg (fun z => by omega)] at this
            exact this.ret
theorem xor_ok (N : Nat) (hN : 512 ≤ N) {σ : Wd} {n : Nat} {den : Nat → Nat} (H : CN σ n den) {x y : Nat} (hx : x < n) (hy : y < n) (hroom : n < 512) : NOp σ n den 1 (tXor (den x) (den y)) (f_X2_xor N (nI x) (nI y) σ) := by
  have h27 := H.lt
  unfold f_X2_xor tXor
  by_cases h4 : x = y
  · rw [if_pos (eqN (by omega) (by omega) h4), if_pos (by rw [h4])]
    exact NOp.here (z := 0) H (by omega) (H.leaf (by omega))
  · rw [if_neg (neN (by omega) (by omega) h4), if_neg (fun z => h4 (H.inj hx hy z))]
    by_cases h0 : x = 0
    · rw [if_pos (show nI x = 0 from eqN (b := 0) (by omega) (by omega) h0), if_pos ((H.z hx).1.mpr h0)]
      exact NOp.here H hy rfl
    · rw [if_neg (show ¬ nI x = 0 from neN (b := 0) (by omega) (by omega) h0), if_neg (fun z => h0 ((H.z hx).1.mp z))]
      by_cases h1 : y = 0
      · rw [if_pos (show nI y = 0 from eqN (b := 0) (by omega) (by omega) h1), if_pos ((H.z hy).1.mpr h1)]
        exact NOp.here H hx rfl
      · rw [if_neg (show ¬ nI y = 0 from neN (b := 0) (by omega) (by omega) h1), if_neg (fun z => h1 ((H.z hy).1.mp z))]
        by_cases h2 : x = 1
        · rw [if_pos (show nI x = 1 from eqN (b := 1) (by omega) (by omega) h2), if_pos ((H.z hx).2.mpr h2)]
          have := made_ok N hN H (s := 0) (by omega) hy hy hroom (fun _ => rfl)
          simp only [true_and] at this
          unfold tNot
          rw [if_neg (fun z => h1 ((H.z hy).1.mp z)), if_neg (fun z => by have := (H.z hy).2.mp z; omega)]
          exact this.ret
        · rw [if_neg (show ¬ nI x = 1 from neN (b := 1) (by omega) (by omega) h2), if_neg (fun z => h2 ((H.z hx).2.mp z))]
          by_cases h3 : y = 1
          · rw [if_pos (show nI y = 1 from eqN (b := 1) (by omega) (by omega) h3), if_pos ((H.z hy).2.mpr h3)]
            have := made_ok N hN H (s := 0) (by omega) hx hx hroom (fun _ => rfl)
            simp only [true_and] at this
            unfold tNot
            rw [if_neg (fun z => h0 ((H.z hx).1.mp z)), if_neg (fun z => h2 ((H.z hx).2.mp z))]
            exact this.ret
          · rw [if_neg (show ¬ nI y = 1 from neN (b := 1) (by omega) (by omega) h3), if_neg (fun z => h3 ((H.z hy).2.mp z))]
            have := made_ok N hN H (s := 3) (by omega) hx hy hroom (fun z => by omega)
            rw [if_neg (fun z => by omega)] at this
            exact this.ret
