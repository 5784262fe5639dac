section
/-! Steps: into, from. -/
theorem st_into (N : Nat) (hN : 2048 < N) {σ : Wd} (R : SRel σ) (x y : Int32) : SStep (f_X9_into N x y) (f_X10_into N x y) σ := by
  obtain ⟨T, P, K, d, ar, sh, hW, hC, hX, hM⟩ := id R
  obtain ⟨w1, w2, w3, w4, w5⟩ := id hW
  have hP := w2.1
  rcases shc x with ⟨k, hk, rfl, hs⟩ | hs
  · rcases plc P hP y with ⟨q, p, rfl, hq, hp⟩ | hy
    · obtain ⟨-, Vp, hne⟩ := w2.at hp
      have hw := Vp.2.2
      have eX : f_X9_into N (nI k) (nI q) σ = if (σ.1 (9 + k) 1) = 0 then ((f_X9_buildNetOf N (nI q) σ).bind fun σ4 => (f_X8_come N σ4).bind fun σ5 => (f_J9_min_7cf53 N (σ5.1 (9 + k) 2) ((σ5.1 4 6) + 1) σ5).bind fun p6 => f_X9_into_L87 N (f_X9_into_J121 N) N (9 + k) p6.1 0 p6.2) else (if (σ.1 (9 + k) 1) = (-1) then (some ((-11), σ)) else (some ((-12), σ))) := by
        unfold f_X9_into
        rw [(hs N σ).1, obind]
        dsimp only
        rw [if_neg (show ¬ (1 : Int32) = 0 by decide), has_y N hC.2.1 hP hq, obind]
        dsimp only
        rw [if_neg (show ¬ (1 : Int32) = 0 by decide), xsh_n hk]
      have eM : ∀ τ, MI τ T P K d ar sh → f_X10_into N (nI k) (nI q) τ = if τ.1 67 k = 0 then ((f_X10_laysPlan N (nI q) τ).bind fun σ4 => (xld σ4 68 4 (nI k)).bind fun v5 => if (σ4.1 41 28) ≤ v5 then (f_X10_into_L78 N (f_X10_into_J115 N) N (nI k) (σ4.1 41 28) 0 σ4) else ((xld σ4 68 4 (nI k)).bind fun v9 => f_X10_into_L78 N (f_X10_into_J115 N) N (nI k) v9 0 σ4)) else (if 0 ≤ τ.1 67 k then (some ((-12), τ)) else (some ((-11), τ))) := fun τ M => by
        unfold f_X10_into
        rw [(hs N τ).2, obind]
        dsimp only
        rw [if_neg (show ¬ (1 : Int32) = 0 by decide), isPlan_y N M.2.1 hP hq, obind]
        dsimp only
        rw [if_neg (show ¬ (1 : Int32) = 0 by decide), xld_n (by omega) (by omega), obind, obind]
      have hc := hC.2.2.2.2 k hk
      have hm := hM.2.2.2.2 k hk
      have hww := w5 k hk
      match hsh : sh k, hc, hm, hww with
      | none, hc, hm, _ =>
        have c1 : σ.1 (9 + k) 1 = -1 := hc
        have c2 : σ.1 67 k = -1 := hm
        exact SStep.ref R (r := -11) (by rw [eX, c1, if_neg (by decide), if_pos rfl]) (by rw [eM σ hM, c2, if_neg (by decide), if_neg (by decide)])
      | some (.inl bs), hc, hm, hww =>
        exact SStep.ref R (r := -12) (by rw [eX, hc.1, if_neg (by decide), if_neg (by decide)]) (by rw [eM σ hM, hm.1, if_neg (by decide), if_pos (by decide)])
      | some (.inr (so, n, it)), hc, hm, hww =>
        obtain ⟨hso, hn⟩ := hww
        by_cases h0 : so = 0
        · subst h0
          obtain ⟨c1, c2, c3⟩ := hc
          obtain ⟨τ2, m, den, e2, S2, F2⟩ := c_build N hN hC.2.1 w2 hp
          have C2 := hC.fr F2 (by decide)
          obtain ⟨τ3, e3, F3, G1, -⟩ := come_cls N (by omega) S2 Vp C2.2.2.2.1 w4
          have F23 : Fr [4, 18, 19, 20, 22, 23, 24, 26, 27, 28, 29, 32] σ τ3 := (F2.mo (by decide)).tr (F3.mo (by decide))
          have C3 := hC.fr F23 (by decide)
          have S3 : CLS τ3 m den (nets p.2) := S2.fr F3 (by decide)
          have h46 := S3.2.1
          rw [nets_1] at h46
          have hk2 : τ3.1 (9 + k) 2 = nI n := by rw [F23.i (by simp; omega)]; exact c2
          generalize hmn : min n (wid p.2 + 1) = many
          have hmn1 : many ≤ n ∧ many ≤ wid p.2 + 1 := by omega
          have hof : ∀ (s : Wd), Fr [37 + k] τ3 s → ∀ i, i < many → f_X8_ofOutcome N (nI i) s = some (nI (oTM p.2 d ar i), s) := fun s Fs i hi => by
            have h := (G1 i (by omega)).1
            have hlt := (G1 i (by omega)).2
            unfold f_X8_ofOutcome f_X2_outcomeGate at h ⊢
            rw [if_pos (show (0 : Int32) ≤ nI i from nI_pos' (by omega))] at h ⊢
            rw [Fs.i (a := 4) (by simp; omega), Fs.i (a := 4) (by simp; omega)]
            have hx22 : ∀ i', xld s 22 12 i' = xld τ3 22 12 i' := fun i' => by
              unfold xld; rw [Fs.i (a := 22) (by simp; omega)]
            have hx32 : ∀ i', xld s 32 512 i' = xld τ3 32 512 i' := fun i' => by
              unfold xld; rw [Fs.i (a := 32) (by simp; omega)]
            rw [h46] at h ⊢
            by_cases hlt2 : nI (wid p.2) ≤ nI i
            · rw [if_pos hlt2, obind] at h ⊢
              dsimp only at h ⊢
              rw [hx32]
              cases hz : xld τ3 32 512 (τ3.1 4 7) with
              | none => rw [hz] at h; cases h
              | some z =>
                rw [hz, obind] at h
                rw [obind]
                have h2 := Option.some.inj h
                have h3 : z = nI (oTM p.2 d ar i) := congrArg Prod.fst h2
                rw [h3]
            · rw [if_neg hlt2] at h ⊢
              rw [hx22]
              cases hy : xld τ3 22 12 (nI i) with
              | none => rw [hy] at h; cases h
              | some g =>
                rw [hy, obind, obind] at h
                rw [obind, obind]
                dsimp only at h ⊢
                rw [hx32]
                cases hz : xld τ3 32 512 g with
                | none => rw [hz] at h; cases h
                | some z =>
                  rw [hz, obind] at h
                  rw [obind]
                  have h2 := Option.some.inj h
                  have h3 : z = nI (oTM p.2 d ar i) := congrArg Prod.fst h2
                  rw [h3]
          have hbd : ∀ i, i < many → oTM p.2 d ar i < 1000000 := fun i hi => (G1 i (by omega)).2
          obtain ⟨τ4, ⟨F4, h1, h2⟩, e4⟩ := lp_up (g := fun fu i s => f_X9_into_L87 N (f_X9_into_J121 N) fu (9 + k) (nI many) (nI i) s) (E := fun s => f_X9_into_J121 N (nI many) s) (P := fun i s => Fr [37 + k] τ3 s ∧ (∀ j, j < i → s.2 (37 + k) j = lN (oTM p.2 d ar j)) ∧ ∀ j, i ≤ j → s.2 (37 + k) j = τ3.2 (37 + k) j) (m := many) (fun fu i s hi ⟨F, h1, h2⟩ => by
              have hb := hbd i hi
              refine ⟨sG s (37 + k) i (lN (oTM p.2 d ar i)), ⟨F.G (by simp), fun j hj => ?_, fun j hj => ?_⟩, ?_⟩
              · rw [sG_2, if_pos rfl]
                by_cases hji : j = i
                · rw [if_pos hji, hji]
                · rw [if_neg hji]; exact h1 j (by omega)
              · rw [sG_2, if_pos rfl, if_neg (by omega)]; exact h2 j (by omega)
              · rw [f_X9_into_L87, if_neg (fun z => by have := (nLe (by omega) (by omega)).mp z; omega), hof s F i hi, obind]
                dsimp only
                rw [nI_l (by omega), show 9 + k + 28 = 37 + k by omega, xstL_n (by omega) (by omega), obind, nI_1]) (fun fu s hP => by
              rw [f_X9_into_L87, if_pos ((nLe (by omega) (by omega)).mpr (Nat.le_refl _))]) many N 0 τ3 (by omega) (by omega) ⟨Fr.rf _ _, fun j hj => absurd hj (Nat.not_lt_zero j), fun j _ => rfl⟩
          have F4' : Fr [9 + k, 37 + k] τ3 τ4 := F4.mo (by simp)
          refine SStep.mk hM (hW.shelf (k := k) (c := some (.inr (0, n, fun i => if i < many then lN (oTM p.2 d ar i) else it i))) ⟨by omega, hn⟩) (r := nI many) (σ1 := τ4) ?_ ((F23.x (by decide)).tr (FrX.shelf hk F4')) (C3.shelf hk F4' (c := some (.inr (0, n, fun i => if i < many then lN (oTM p.2 d ar i) else it i))) ⟨?_, ?_, fun i hi => ?_⟩) ((hX.fr F23 (by decide) (by decide) (by decide) (by decide)).shelf hk F4') (fun τ M => ?_)
          · rw [eX, c1, if_pos (show nI 0 = 0 from rfl), e2, obind, e3, obind, hk2, h46, nI_1, min_ok N (by omega) (by omega), obind, hmn]
            exact e4
          · rw [F4.i (by simp), F23.i (by simp; omega)]; exact c1
          · rw [F4.i (by simp)]; exact hk2
          · dsimp only
            by_cases hi2 : i < many
            · rw [if_pos hi2]; exact h1 i hi2
            · rw [if_neg hi2, h2 i (by omega), F23.l (by simp; omega)]; exact c3 i hi
          · have hmt := M.2.2.2.2 k hk
            rw [hsh] at hmt
            obtain ⟨t1, t2, t3⟩ := hmt
            obtain ⟨σ2, m', kd, l, r, den', oz, f2, H2, G2⟩ := m_lays N hN M.2.1 w2 M.2.2.2.1 w4 hp
            have M2 := M.fr G2 (by decide) (by decide)
            have h68 : σ2.1 68 k = nI n := by rw [G2.i (by decide) (by decide)]; exact t2
            have h28 : σ2.1 41 28 = nI (wid p.2 + 1) := H2.2.1.2.1
            obtain ⟨σ3, ⟨F5, g1, g2⟩, e5⟩ := lp_up (g := fun fu i s => f_X10_into_L78 N (f_X10_into_J115 N) fu (nI k) (nI many) (nI i) s) (E := fun s => f_X10_into_J115 N (nI many) s) (P := fun i s => FrM [70] [] σ2 s ∧ (∀ j, j < i → s.2 70 (20 * k + j) = lN (oTM p.2 d ar j)) ∧ ∀ q, (q < 20 * k ∨ 20 * k + i ≤ q) → s.2 70 q = σ2.2 70 q) (m := many) (fun fu i s hi ⟨F, g1, g2⟩ => by
                have hb := hbd i hi
                have hmo := m_of N H2.1.2.1 (H2.2.1.fr F (by decide) (by decide)) (H2.2.2.2.2.1.frm F (by decide) (by decide)) (i := i) (by omega) (fun v7 => (xstL s 70 80 (nI (20 * k) + nI i) (Int32.toInt64 v7)).bind fun σ8 => f_X10_into_L78 N (f_X10_into_J115 N) fu (nI k) (nI many) (nI i + 1) σ8)
                refine ⟨sG s 70 (20 * k + i) (lN (oTM p.2 d ar i)), ⟨F.G (by decide), fun j hj => ?_, fun q hq => ?_⟩, ?_⟩
                · rw [sG_2, if_pos rfl]
                  by_cases hji : j = i
                  · rw [if_pos (by omega), hji]
                  · rw [if_neg (by omega)]; exact g1 j (by omega)
                · rw [sG_2, if_pos rfl, if_neg (by omega)]; exact g2 q (by omega)
                · rw [f_X10_into_L78, if_neg (fun z => by have := (nLe (by omega) (by omega)).mp z; omega), show (20 : Int32) * nI k = nI (20 * k) from nMulL 20 k, hmo, ld_tm H2 (by omega), nI_l (by omega), nI_add, xstL_n (by omega) (by omega), obind, nI_1]) (fun fu s hP => by
                rw [f_X10_into_L78, if_pos ((nLe (by omega) (by omega)).mpr (Nat.le_refl _))]) many N 0 σ2 (by omega) (by omega) ⟨FrM.rf _ _ _, fun j hj => absurd hj (Nat.not_lt_zero j), fun q _ => rfl⟩
            refine ⟨σ3, ?_, (G2.y (by decide)).tr (F5.y (by decide)), M2.shelf w5 (F5.mo (by decide) (by decide)) (fun j hj hjk => ⟨F5.i (by decide) (by decide) _, F5.i (by decide) (by decide) _, fun i _ => F5.i (by decide) (by decide) _, fun i hi => g2 _ (by omega)⟩) (c := some (.inr (0, n, fun i => if i < many then lN (oTM p.2 d ar i) else it i))) ⟨?_, ?_, fun i hi => ?_⟩⟩
            · rw [eM τ M, t1, if_pos (show nI 0 = 0 from rfl), f2, obind, xld_n (by omega) (by omega), obind, h28, h68]
              by_cases hle : wid p.2 + 1 ≤ n
              · rw [if_pos ((nLe (by omega) (by omega)).mpr hle), show wid p.2 + 1 = many by omega]
                exact e5
              · rw [if_neg (fun z => hle ((nLe (by omega) (by omega)).mp z)), obind, show n = many by omega]
                exact e5
            · rw [F5.i (by decide) (by decide), G2.i (by decide) (by decide)]; exact t1
            · rw [F5.i (by decide) (by decide)]; exact h68
            · dsimp only
              by_cases hi2 : i < many
              · rw [if_pos hi2]; exact g1 i hi2
              · rw [if_neg hi2, g2 _ (by omega), G2.l (by decide)]; exact t3 i hi
        · have h1 : so = 1 := by omega
          subst h1
          exact SStep.ref R (r := -12) (by rw [eX, hc.1, if_neg (by decide), if_neg (by decide)]) (by rw [eM σ hM, hm.1, if_neg (by decide), if_pos (by decide)])
    · refine SStep.ref R (r := -1) ?_ ?_
      · unfold f_X9_into
        rw [(hs N σ).1, obind]
        dsimp only
        rw [if_neg (show ¬ (1 : Int32) = 0 by decide), has_n N hC.2.1 hy, obind]; rfl
      · unfold f_X10_into
        rw [(hs N σ).2, obind]
        dsimp only
        rw [if_neg (show ¬ (1 : Int32) = 0 by decide), isPlan_n N hM.2.1 hP hy, obind]; rfl
  · refine SStep.ref R (r := -1) ?_ ?_
    · unfold f_X9_into
      rw [(hs N σ).1, obind]; rfl
    · unfold f_X10_into
      rw [(hs N σ).2, obind]; rfl
theorem toI32 : ∀ a, a < 100 → Int64.toInt32 (lN a) = nI a := by decide +kernel
theorem lN99 {v : Int64} (h1 : ¬ v < 0) (h2 : ¬ (99 : Int64) < v) : ∃ a, a < 100 ∧ v = lN a := by
  obtain ⟨a, ha, rfl⟩ := pk_lOf h1
  refine ⟨a, ?_, rfl⟩
  by_cases hc : a < 100
  · exact hc
  · exact absurd ((pk_lLT (a := 99) (by decide) ha).mpr (by omega)) h2
theorem lN99' {a : Nat} (h : a < 100) : ¬ lN a < 0 ∧ ¬ (99 : Int64) < lN a := ⟨fun z => by have := (pk_lLT (b := 0) (by omega) (by omega)).mp z; omega, fun z => by have := (pk_lLT (a := 99) (by omega) (by omega)).mp z; omega⟩
/-- how many items lead that are arrivals -/
noncomputable def leadA (it : Nat → Int64) (n : Nat) : Nat := by
  classical
  exact fiN (fun i => decide (it i < 0 ∨ (99 : Int64) < it i)) (min n 12)
theorem leadA_sp (it : Nat → Int64) (n : Nat) : leadA it n ≤ min n 12 ∧ (∀ i, i < leadA it n → ¬ (it i < 0 ∨ (99 : Int64) < it i)) ∧ (leadA it n < min n 12 → it (leadA it n) < 0 ∨ (99 : Int64) < it (leadA it n)) := by
  classical
  obtain ⟨h1, h2, h3⟩ := fiN_sp (fun i => decide (it i < 0 ∨ (99 : Int64) < it i)) (min n 12)
  exact ⟨h1, fun i hi => of_decide_eq_false (h2 i hi), fun h => of_decide_eq_true (h3 h)⟩
theorem st_from (N : Nat) (hN : 2048 < N) {σ : Wd} (R : SRel σ) (x y : Int32) : SStep (f_X9_from N x y) (f_X10_from N x y) σ := by
  obtain ⟨T, P, K, d, ar, sh, hW, hC, hX, hM⟩ := id R
  obtain ⟨w1, w2, w3, w4, w5⟩ := id hW
  rcases shc x with ⟨k, hk, rfl, hs⟩ | hs
  · rcases rng y 0 1 (by omega) (by omega) with ⟨s, -, hsd, rfl⟩ | ⟨h1, h2⟩
    · have qs : (0 : Int32) ≤ nI s ∧ nI s ≤ 1 := ⟨nI_pos' (by omega), (nLe (b := 1) (by omega) (by omega)).mpr hsd⟩
      have eX : f_X9_from N (nI k) (nI s) σ = if (σ.1 (9 + k) 1) = 1 then ((f_X5_leadingArrivals N (9 + k) σ).bind fun p3 => f_X9_from_L58 N (f_X9_from_J94 N) N (nI s) (9 + k) p3.1 0 p3.2) else (if (σ.1 (9 + k) 1) = (-1) then (some ((-11), σ)) else (some ((-12), σ))) := by
        unfold f_X9_from
        rw [(hs N σ).1, obind]
        dsimp only
        rw [if_neg (show ¬ (1 : Int32) = 0 by decide), if_neg (nGt qs.1), if_pos qs.2, xsh_n hk]
      have eM : ∀ τ, f_X10_from N (nI k) (nI s) τ = if τ.1 67 k = 1 then (f_X10_from_L48 N (f_X10_from_J114 N) N (nI k) (nI s) 0 τ) else (if 0 ≤ τ.1 67 k then (some ((-12), τ)) else (some ((-11), τ))) := fun τ => by
        unfold f_X10_from
        rw [(hs N τ).2, obind]
        dsimp only
        rw [if_neg (show ¬ (1 : Int32) = 0 by decide), in_y N (lo := 0) (hi := 1) (by decide) (by decide) qs, obind]
        dsimp only
        rw [if_neg (show ¬ (1 : Int32) = 0 by decide), xld_n (by omega) (by omega), obind, obind]
      have hc := hC.2.2.2.2 k hk
      have hm := hM.2.2.2.2 k hk
      have hww := w5 k hk
      match hsh : sh k, hc, hm, hww with
      | none, hc, hm, _ =>
        have c1 : σ.1 (9 + k) 1 = -1 := hc
        have c2 : σ.1 67 k = -1 := hm
        exact SStep.ref R (r := -11) (by rw [eX, c1, if_neg (by decide), if_pos rfl]) (by rw [eM σ, c2, if_neg (by decide), if_neg (by decide)])
      | some (.inl bs), hc, hm, hww =>
        exact SStep.ref R (r := -12) (by rw [eX, hc.1, if_neg (by decide), if_neg (by decide)]) (by rw [eM σ, hm.1, if_neg (by decide), if_pos (by decide)])
      | some (.inr (so, n, it)), hc, hm, hww =>
        obtain ⟨hso, hn⟩ := hww
        by_cases h1 : so = 1
        · subst h1
          obtain ⟨c1, c2, c3⟩ := hc
          obtain ⟨l1, l2, l3⟩ := leadA_sp it n
          generalize leadA it n = many at l1 l2 l3
          obtain ⟨A, hA, -⟩ := pickN (w := many) 0 (P := fun i a => a < 100 ∧ it i = lN a) (fun i hi => by
            have := l2 i hi
            exact lN99 (fun z => this (Or.inl z)) (fun z => this (Or.inr z)))
          have hlead : f_X5_leadingArrivals N (9 + k) σ = some (nI many, σ) := by
            unfold f_X5_leadingArrivals
            rw [c2, show (12 : Int32) = nI 12 from rfl, min_ok N (by omega) (by omega), obind]
            dsimp only
            obtain ⟨j, -, j2, j3, j4, j5⟩ := lp_find (g := fun fu i => f_X5_leadingArrivals_L12 N (9 + k) (f_X5_leadingArrivals_J47 N (9 + k)) fu (nI (min n 12)) (nI i) σ) (E := fun i => some (nI i, σ)) (Q := fun i => it i < 0 ∨ (99 : Int64) < it i) (m := min n 12) (fun fu i hi hq => by
                rw [f_X5_leadingArrivals_L12, if_neg (fun z => by have := (nLe (by omega) (by omega)).mp z; omega), show 9 + k + 28 = 37 + k by omega, xldL_n (by omega) (by omega), obind, c3 i (by omega), if_neg (fun z => hq (Or.inl ((lg_cmp_lt _ _).mp z))), obind, if_neg (fun z => hq (Or.inr ((lg_cmp_gt _ _).mp z))), nI_1]) (fun fu i hi hq => by
                rw [f_X5_leadingArrivals_L12, if_neg (fun z => by have := (nLe (by omega) (by omega)).mp z; omega), show 9 + k + 28 = 37 + k by omega, xldL_n (by omega) (by omega), obind, c3 i (by omega)]
                by_cases h0 : it i < 0
                · rw [if_pos ((lg_cmp_lt _ _).mpr h0)]; rfl
                · rw [if_neg (fun z => h0 ((lg_cmp_lt _ _).mp z)), obind, if_pos ((lg_cmp_gt _ _).mpr (hq.resolve_left h0))]; rfl) (fun fu => by
                rw [f_X5_leadingArrivals_L12, if_pos ((nLe (by omega) (by omega)).mpr (Nat.le_refl _))]; rfl) (min n 12) N 0 (by omega) (by omega)
            have hj : j = many := by
              by_cases c : j < many
              · exact absurd (j4 (by omega)) (l2 j c)
              · by_cases c' : many < j
                · exact absurd (l3 (by omega)) (j3 many (Nat.zero_le _) c')
                · omega
            rw [← hj]
            exact j5
          have hm12 : many ≤ 12 ∧ many ≤ n := by omega
          have hnew : ∀ j, (if 12 * s ≤ j ∧ j < 12 * s + 0 then A (j - 12 * s) else ar j) = ar j := fun j => by rw [if_neg (by omega)]
          have cls : ∃ τ1, f_X9_from_L58 N (f_X9_from_J94 N) N (nI s) (9 + k) (nI many) 0 σ = f_X9_from_J94 N (nI many) τ1 ∧ Fr [31] σ τ1 ∧ ∀ j, j < 25 → τ1.1 31 j = nI (if 12 * s ≤ j ∧ j < 12 * s + many then A (j - 12 * s) else ar j) := by
            obtain ⟨τ1, ⟨F, h⟩, e⟩ := lp_up (g := fun fu i t => f_X9_from_L58 N (f_X9_from_J94 N) fu (nI s) (9 + k) (nI many) (nI i) t) (E := fun t => f_X9_from_J94 N (nI many) t) (P := fun i t => Fr [31] σ t ∧ ∀ j, j < 25 → t.1 31 j = nI (if 12 * s ≤ j ∧ j < 12 * s + i then A (j - 12 * s) else ar j)) (m := many) (fun fu i t hi ⟨F, h⟩ => by
                obtain ⟨a1, a2⟩ := hA i hi
                have ht : t.2 (37 + k) i = lN (A i) := by rw [F.l (by simp; omega), c3 i (by omega), a2]
                refine ⟨sF t 31 (12 * s + i) (nI (A i)), ⟨F.F (by decide), fun j hj => ?_⟩, ?_⟩
                · rw [sF_1, if_pos rfl]
                  by_cases hji : j = 12 * s + i
                  · rw [if_pos hji, if_pos (by omega), show j - 12 * s = i by omega]
                  · rw [if_neg hji, h j hj]
                    by_cases c : 12 * s ≤ j ∧ j < 12 * s + i
                    · rw [if_pos c, if_pos (by omega)]
                    · rw [if_neg c, if_neg (by omega)]
                · rw [f_X9_from_L58, if_neg (fun z => by have := (nLe (by omega) (by omega)).mp z; omega), show 9 + k + 28 = 37 + k by omega, xldL_n (by omega) (by omega), obind, ht, toI32 _ a1, show nI s * 12 = nI (12 * s) by rw [show nI s * 12 = nI (s * 12) from pk_mul s 12, Nat.mul_comm], nI_add, xst_n (by omega) (by omega), obind, nI_1]) (fun fu t hP => by
                rw [f_X9_from_L58, if_pos ((nLe (by omega) (by omega)).mpr (Nat.le_refl _))]) many N 0 σ (by omega) (by omega) ⟨Fr.rf _ _, fun j hj => by rw [hnew]; exact hC.2.2.2.1.2 j hj⟩
            exact ⟨τ1, e, F, h⟩
          have mdl : ∀ τ, MI τ T P K d ar sh → ∃ τ1, f_X10_from_L48 N (f_X10_from_J114 N) N (nI k) (nI s) 0 τ = f_X10_from_J114 N (nI many) τ1 ∧ FrM [52] [] τ τ1 ∧ ∀ j, j < 25 → τ1.1 52 j = nI (if 12 * s ≤ j ∧ j < 12 * s + many then A (j - 12 * s) else ar j) := fun τ M => by
            have hmt := M.2.2.2.2 k hk
            rw [hsh] at hmt
            obtain ⟨t1, t2, t3⟩ := hmt
            have k20 : (20 : Int32) * nI k = nI (20 * k) := nMulL 20 k
            obtain ⟨τ1, ⟨F, h⟩, e⟩ := lp_up (g := fun fu i t => f_X10_from_L48 N (f_X10_from_J114 N) fu (nI k) (nI s) (nI i) t) (E := fun t => f_X10_from_J114 N (nI many) t) (P := fun i t => FrM [52] [] τ t ∧ ∀ j, j < 25 → t.1 52 j = nI (if 12 * s ≤ j ∧ j < 12 * s + i then A (j - 12 * s) else ar j)) (m := many) (fun fu i t hi ⟨F, h⟩ => by
                obtain ⟨a1, a2⟩ := hA i hi
                obtain ⟨b1, b2⟩ := lN99' a1
                have ht : t.2 70 (20 * k + i) = lN (A i) := by rw [F.l (by decide), t3 i (by omega), a2]
                have hin : f_X10_in N (lN (A i)) 0 99 t = some (1, t) := by
                  unfold f_X10_in
                  rw [if_neg (fun z => b1 ((lg_cmp_lt _ _).mp z)), if_neg (fun z => b2 ((lg_cmp_gt _ _).mp z))]
                refine ⟨sF t 52 (12 * s + i) (nI (A i)), ⟨F.F (by decide) (by decide), fun j hj => ?_⟩, ?_⟩
                · rw [sF_1, if_pos rfl]
                  by_cases hji : j = 12 * s + i
                  · rw [if_pos hji, if_pos (by omega), show j - 12 * s = i by omega]
                  · rw [if_neg hji, h j hj]
                    by_cases c : 12 * s ≤ j ∧ j < 12 * s + i
                    · rw [if_pos c, if_pos (by omega)]
                    · rw [if_neg c, if_neg (by omega)]
                · rw [f_X10_from_L48, xld_n (by omega) (by omega), obind, F.i (by decide) (by decide), t2, if_neg (fun z => by have := (nLe (by omega) (by omega)).mp z; omega), if_neg (show ¬ (12 : Int32) ≤ nI i from fun z => by have := (nLe (a := 12) (by omega) (by omega)).mp z; omega), k20, nI_add, xldL_n (by omega) (by omega), obind, ht, hin, obind]
                  dsimp only
                  rw [if_neg (show ¬ (1 : Int32) = 0 by decide), xldL_n (by omega) (by omega), obind, ht, toI32 _ a1, show (12 : Int32) * nI s = nI (12 * s) from nMulL 12 s, nI_add, xst_n (by omega) (by omega), obind, nI_1]) (fun fu t ⟨F, h⟩ => by
                rw [f_X10_from_L48, xld_n (by omega) (by omega), obind, F.i (by decide) (by decide), t2]
                by_cases cn : n ≤ many
                · rw [if_pos ((nLe (by omega) (by omega)).mpr cn)]
                · rw [if_neg (fun z => cn ((nLe (by omega) (by omega)).mp z))]
                  by_cases c12 : 12 ≤ many
                  · rw [if_pos (show (12 : Int32) ≤ nI many from (nLe (a := 12) (by omega) (by omega)).mpr c12)]
                  · rw [if_neg (show ¬ (12 : Int32) ≤ nI many from fun z => c12 ((nLe (a := 12) (by omega) (by omega)).mp z)), k20, nI_add, xldL_n (by omega) (by omega), obind, F.l (by decide), t3 many (by omega)]
                    have hbad := l3 (by omega)
                    have hin : f_X10_in N (it many) 0 99 t = some (0, t) := by
                      unfold f_X10_in
                      by_cases h0 : it many < 0
                      · rw [if_pos ((lg_cmp_lt _ _).mpr h0)]
                      · rw [if_neg (fun z => h0 ((lg_cmp_lt _ _).mp z)), if_pos ((lg_cmp_gt _ _).mpr (hbad.resolve_left h0))]
                    rw [hin, obind]
                    dsimp only
                    rw [if_pos rfl]) many N 0 τ (by omega) (by omega) ⟨FrM.rf _ _ _, fun j hj => by rw [hnew]; exact M.2.2.2.1.2 j hj⟩
            exact ⟨τ1, e, F, h⟩
          obtain ⟨τ1, e1, F1, h1⟩ := cls
          by_cases h0 : many = 0
          · have har : ∀ j, (if 12 * s ≤ j ∧ j < 12 * s + many then A (j - 12 * s) else ar j) = ar j := fun j => by rw [if_neg (by omega)]
            have C1 : CC τ1 T P K d ar sh := ⟨hC.1.fr F1 (by decide) (by decide), hC.2.1.fr F1 (by decide) (by decide) (by decide), hC.2.2.1.fr F1 (by decide) (by decide), ⟨fun j hj => by rw [F1.i (by decide)]; exact hC.2.2.2.1.1 j hj, fun j hj => by rw [h1 j hj, har]⟩, fun j hj => (hC.2.2.2.2 j hj).eq (fun b => F1.i (by simp; omega) b) (fun b => F1.l (by simp; omega) b) (fun b => F1.l (by simp; omega) b)⟩
            refine SStep.mk hM hW (r := nI many) (σ1 := τ1) ?_ (F1.x (by decide)) C1 (hX.fr F1 (by decide) (by decide) (by decide) (by decide)) (fun τ M => ?_)
            · rw [eX, c1, if_pos (show nI 1 = 1 from rfl), hlead, obind]
              dsimp only
              rw [e1]
              unfold f_X9_from_J94
              rw [if_pos (show nI many ≤ 0 from (nLe (b := 0) (by omega) (by omega)).mpr (by omega))]
            · obtain ⟨τ2, e2, F2, h2⟩ := mdl τ M
              have hmt := M.2.2.2.2 k hk
              rw [hsh] at hmt
              refine ⟨sF τ2 41 14 (τ2.1 41 14), ?_, ?_, ?_⟩
              · rw [eM, hmt.1, if_pos (show nI 1 = 1 from rfl), e2]
                unfold f_X10_from_J114
                rw [if_pos (show nI many ≤ 0 from (nLe (b := 0) (by omega) (by omega)).mpr (by omega))]
              · rw [sF_id]; exact F2.y (by decide)
              · rw [sF_id]
                exact ⟨M.1.fr F2 (by decide) (by decide), M.2.1.fr F2 (by decide) (by decide) (by decide) (by decide) (by decide), M.2.2.1.fr F2 (by decide) (by decide) (by decide), ⟨fun j hj => by rw [F2.i (by decide) (by decide)]; exact M.2.2.2.1.1 j hj, fun j hj => by rw [h2 j hj, har]⟩, fun j hj => (M.2.2.2.2 j hj).eq (F2.i (by decide) (by decide) j) (F2.i (by decide) (by decide) j) (fun i _ => F2.i (by decide) (by decide) _) (fun i _ => F2.l (by decide) _) (w5 j hj)⟩
          · obtain ⟨τ3, e3, F3, z1, z2, z3⟩ := changed_ok N τ1
            have F : Fr [3, 6, 7, 30, 31] σ τ3 := (F1.mo (by decide)).tr (F3.mo (by decide))
            have D1 : DA τ3 d (fun j => if 12 * s ≤ j ∧ j < 12 * s + many then A (j - 12 * s) else ar j) := ⟨fun j hj => by rw [F3.i (by decide), F1.i (by decide)]; exact hC.2.2.2.1.1 j hj, fun j hj => by rw [F3.i (by decide)]; exact h1 j hj⟩
            have hdb : dab d (fun j => if 12 * s ≤ j ∧ j < 12 * s + many then A (j - 12 * s) else ar j) := ⟨w4.1, fun j hj => by
              dsimp only
              by_cases c : 12 * s ≤ j ∧ j < 12 * s + many
              · rw [if_pos c]; have := (hA (j - 12 * s) (by omega)).1; omega
              · rw [if_neg c]; exact w4.2 j hj⟩
            refine SStep.mk hM (⟨w1, w2, WK_nil, hdb, w5⟩ : WSt T P [] d (fun j => if 12 * s ≤ j ∧ j < 12 * s + many then A (j - 12 * s) else ar j) sh) (r := nI many) (σ1 := τ3) ?_ (F.x (by decide)) (hC.times F z1 D1) (hX.times F z2 z3) (fun τ M => ?_)
            · rw [eX, c1, if_pos (show nI 1 = 1 from rfl), hlead, obind]
              dsimp only
              rw [e1]
              unfold f_X9_from_J94
              rw [if_neg (show ¬ nI many ≤ 0 from fun z => by have := (nLe (b := 0) (by omega) (by omega)).mp z; omega), e3, obind]
            · obtain ⟨τ2, e2, F2, h2⟩ := mdl τ M
              have hmt := M.2.2.2.2 k hk
              rw [hsh] at hmt
              have F4 : FrM [51, 52] [14] τ (sF τ2 41 14 0) := (F2.mo (by decide) (by decide)).D (by decide)
              refine ⟨sF τ2 41 14 0, ?_, F4.y (by decide), M.times F4 sF_eq ⟨fun j hj => by rw [sF_ne (by decide), F2.i (by decide) (by decide)]; exact M.2.2.2.1.1 j hj, fun j hj => by rw [sF_ne (by decide)]; exact h2 j hj⟩ w5⟩
              rw [eM, hmt.1, if_pos (show nI 1 = 1 from rfl), e2]
              unfold f_X10_from_J114
              rw [if_neg (show ¬ nI many ≤ 0 from fun z => by have := (nLe (b := 0) (by omega) (by omega)).mp z; omega)]
        · have h1 : so = 0 := by omega
          subst h1
          exact SStep.ref R (r := -12) (by rw [eX, hc.1, if_neg (by decide), if_neg (by decide)]) (by rw [eM σ, hm.1, if_neg (by decide), if_pos (by decide)])
    · refine SStep.ref R (r := -1) ?_ ?_
      · unfold f_X9_from
        rw [(hs N σ).1, obind]
        dsimp only
        rw [if_neg (show ¬ (1 : Int32) = 0 by decide)]
        by_cases h3 : y < 0
        · rw [if_pos h3]
        · rw [if_neg h3, if_neg (show ¬ y ≤ 1 from nGe (h2.resolve_left h3))]
      · unfold f_X10_from
        rw [(hs N σ).2, obind]
        dsimp only
        rw [if_neg (show ¬ (1 : Int32) = 0 by decide), in_n N (lo := 0) (hi := 1) (by decide) (by decide) h1, obind]; rfl
  · refine SStep.ref R (r := -1) ?_ ?_
    · unfold f_X9_from
      rw [(hs N σ).1, obind]; rfl
    · unfold f_X10_from
      rw [(hs N σ).2, obind]; rfl
end
