section
/-! Steps: row, put, get, into, from. -/
theorem st_row (N : Nat) (hN : 2048 < N) {σ : Wd} (R : SRel σ) (x y z : Int32) : SStep (f_X9_row N x y z) (f_X10_row N x y z) σ := by
  obtain ⟨T, P, K, d, ar, sh, hW, hC, hX, hM⟩ := id R
  obtain ⟨w1, w2, w3, w4, w5⟩ := id hW
  rcases shc x with ⟨k, hk, rfl, hs⟩ | hs
  · rcases rng y 0 1 (by omega) (by omega) with ⟨so, -, hso, rfl⟩ | ⟨h1, h2⟩
    · have qs : (0 : Int32) ≤ nI so ∧ nI so ≤ 1 := ⟨nI_pos' (by omega), (nLe (b := 1) (by omega) (by omega)).mpr hso⟩
      have eX : f_X9_row N (nI k) (nI so) z σ = (if z ≤ 20 then (if 0 ≤ z then ((f_X5_holdRow N (9 + k) (nI so) z σ).bind fun σ3 => some (1, σ3)) else (some ((-14), σ))) else (some ((-1), σ))) := by
        unfold f_X9_row
        rw [(hs N σ).1, obind]
        dsimp only
        rw [if_neg (show ¬ (1 : Int32) = 0 by decide), if_neg (nGt qs.1), if_neg (nGt qs.2), xsh_n hk]
      have eM : ∀ τ, f_X10_row N (nI k) (nI so) z τ = (if z ≤ 20 then (if 0 ≤ z then ((xst τ 67 4 (nI k) (nI so)).bind fun σ3 => (xst σ3 68 4 (nI k) z).bind fun σ4 => f_X10_row_L49 N (f_X10_row_J75 N) N (nI k) 0 σ4) else (some ((-14), τ))) else (some ((-1), τ))) := fun τ => by
        unfold f_X10_row
        rw [(hs N τ).2, obind]
        dsimp only
        rw [if_neg (show ¬ (1 : Int32) = 0 by decide), in_y N (lo := 0) (hi := 1) (by decide) (by decide) qs, obind]
        dsimp only
        rw [if_neg (show ¬ (1 : Int32) = 0 by decide)]
      by_cases hz : z ≤ 20
      · rw [if_pos hz] at eX
        by_cases hz0 : 0 ≤ z
        · rw [if_pos hz0] at eX
          obtain ⟨n, hn, rfl⟩ := nI_of (nGt hz0)
          have hn2 : n < 2147483648 := hn
          have hn20 := (nLe (b := 20) hn2 (by omega)).mp hz
          have hold : ∃ τ1, f_X5_holdRow N (9 + k) (nI so) (nI n) σ = some τ1 ∧ Fr [9 + k, 37 + k] σ τ1 ∧ CShk τ1 k (some (.inr (so, n, fun _ => 0))) := by
            unfold f_X5_holdRow
            dsimp only
            obtain ⟨τ1, ⟨F, h1⟩, e⟩ := lp_up (g := fun fu i s => f_X5_holdRow_L12 N (9 + k) (f_X5_holdRow_J30 N (9 + k)) fu (nI n) (nI i) s) (E := fun s => f_X5_holdRow_J30 N (9 + k) s) (P := fun i s => Fr [37 + k] (sF (sF σ (9 + k) 1 (nI so)) (9 + k) 2 (nI n)) s ∧ ∀ j, j < i → s.2 (37 + k) j = 0) (m := n) (fun fu i s hi ⟨F, h1⟩ => by
                refine ⟨sG s (37 + k) i 0, ⟨F.G (by simp), fun j hj => ?_⟩, ?_⟩
                · rw [sG_2, if_pos rfl]
                  by_cases hji : j = i
                  · rw [if_pos hji]
                  · rw [if_neg hji]; exact h1 j (by omega)
                · rw [f_X5_holdRow_L12, if_neg (fun z => by have := (nLe (by omega) (by omega)).mp z; omega), show 9 + k + 28 = 37 + k by omega, xstL_n (by omega) (by omega), obind, nI_1]) (fun fu s hP => by
                rw [f_X5_holdRow_L12, if_pos ((nLe (by omega) (by omega)).mpr (Nat.le_refl _))]) n N 0 (sF (sF σ (9 + k) 1 (nI so)) (9 + k) 2 (nI n)) (by omega) (by omega) ⟨Fr.rf _ _, fun j hj => absurd hj (Nat.not_lt_zero j)⟩
            refine ⟨τ1, e, (((Fr.rf _ σ).F (by simp)).F (by simp)).tr (F.mo (by simp)), ⟨by rw [F.i (by simp), sF_nb (by decide), sF_eq], by rw [F.i (by simp), sF_eq], h1⟩⟩
          obtain ⟨τ1, e1, F1, C1⟩ := hold
          refine SStep.mk hM (hW.shelf (k := k) (c := some (.inr (so, n, fun _ => 0))) ⟨by omega, hn20⟩) (r := 1) (σ1 := τ1) (by rw [eX, e1, obind]) (FrX.shelf hk F1) (hC.shelf hk F1 C1) (hX.shelf hk F1) (fun τ M => ?_)
          have F0 : FrM [67, 68, 69, 70] [] τ (sF (sF τ 67 k (nI so)) 68 k (nI n)) := ((FrM.rf _ _ τ).F (by decide) (by decide)).F (by decide) (by decide)
          obtain ⟨τ2, ⟨F, h1, h2⟩, e⟩ := lp_up (g := fun fu i s => f_X10_row_L49 N (f_X10_row_J75 N) fu (nI k) (nI i) s) (E := fun s => f_X10_row_J75 N s) (P := fun i s => FrM [70] [] (sF (sF τ 67 k (nI so)) 68 k (nI n)) s ∧ (∀ j, j < i → s.2 70 (20 * k + j) = 0) ∧ ∀ q, (q < 20 * k ∨ 20 * k + 20 ≤ q) → s.2 70 q = τ.2 70 q) (m := 20) (fun fu i s hi ⟨F, h1, h2⟩ => by
              refine ⟨sG s 70 (20 * k + i) 0, ⟨F.G (by decide), fun j hj => ?_, fun q hq => ?_⟩, ?_⟩
              · rw [sG_2, if_pos rfl]
                by_cases hji : j = i
                · rw [if_pos (by omega)]
                · rw [if_neg (by omega)]; exact h1 j (by omega)
              · rw [sG_2, if_pos rfl, if_neg (by omega)]; exact h2 q hq
              · rw [f_X10_row_L49, if_neg (show ¬ (20 : Int32) ≤ nI i from fun z => by have := (nLe (a := 20) (by omega) (by omega)).mp z; omega), show (20 : Int32) * nI k = nI (20 * k) from nMulL 20 k, nI_add, xstL_n (by omega) (by omega), obind, nI_1]) (fun fu s hP => by
              rw [f_X10_row_L49, if_pos (show (20 : Int32) ≤ nI 20 from (nLe (a := 20) (by omega) (by omega)).mpr (Nat.le_refl _))]) 20 N 0 (sF (sF τ 67 k (nI so)) 68 k (nI n)) (by omega) (by omega) ⟨FrM.rf _ _ _, fun j hj => absurd hj (Nat.not_lt_zero j), fun q _ => rfl⟩
          refine ⟨τ2, ?_, (F0.y (by decide)).tr (F.y (by decide)), M.shelf w5 (F0.tr (F.mo (by decide) (by decide))) (fun j hj hjk => ⟨by rw [F.i (by decide) (by decide), sF_ne (by decide), sF_nb hjk], by rw [F.i (by decide) (by decide), sF_nb hjk, sF_ne (by decide)], fun i _ => by rw [F.i (by decide) (by decide), sF_ne (by decide), sF_ne (by decide)], fun i hi => h2 _ (by omega)⟩) (c := some (.inr (so, n, fun _ => 0))) ⟨by rw [F.i (by decide) (by decide), sF_ne (by decide), sF_eq], by rw [F.i (by decide) (by decide), sF_eq], fun i hi => h1 i (by omega)⟩⟩
          rw [eM, if_pos hz, if_pos hz0, xst_n (by omega) (by omega), obind, xst_n (by omega) (by omega), obind]
          exact e
        · rw [if_neg hz0] at eX
          exact SStep.ref R eX (by rw [eM, if_pos hz, if_neg hz0])
      · rw [if_neg hz] at eX
        exact SStep.ref R eX (by rw [eM, if_neg hz])
    · refine SStep.ref R (r := -1) ?_ ?_
      · unfold f_X9_row
        rw [(hs N σ).1, obind]
        dsimp only
        rw [if_neg (show ¬ (1 : Int32) = 0 by decide)]
        by_cases h3 : y < 0
        · rw [if_pos h3]
        · rw [if_neg h3, if_pos (show (1 : Int32) < y from h2.resolve_left h3)]
      · unfold f_X10_row
        rw [(hs N σ).2, obind]
        dsimp only
        rw [if_neg (show ¬ (1 : Int32) = 0 by decide), in_n N (lo := 0) (hi := 1) (by decide) (by decide) h1, obind]; rfl
  · refine SStep.ref R (r := -1) ?_ ?_
    · unfold f_X9_row
      rw [(hs N σ).1, obind]; rfl
    · unfold f_X10_row
      rw [(hs N σ).2, obind]; rfl
/-- an index below n, or not -/
theorem ixc (x : Int32) {n : Nat} (hn : n ≤ 20) : (∃ i, i < n ∧ x = nI i ∧ ¬ x < 0 ∧ x < nI n ∧ (0 ≤ x ∧ x ≤ nI n - 1)) ∨ ((x < 0 ∨ ¬ x < nI n) ∧ ¬ (0 ≤ x ∧ x ≤ nI n - 1)) := by
  rcases i32c x with h | ⟨i, hi, rfl⟩
  · exact Or.inr ⟨Or.inl h, fun z => nGe h z.1⟩
  · by_cases hl : i < n
    · left
      refine ⟨i, hl, rfl, neg_lt i hi, (nLt hi (by omega)).mpr hl, nI_pos' hi, ?_⟩
      rw [show nI n - 1 = nI (n - 1) from pk_sub (b := 1) (by omega)]
      exact (nLe hi (by omega)).mpr (by omega)
    · right
      refine ⟨Or.inr (fun z => hl ((nLt hi (by omega)).mp z)), fun z => ?_⟩
      have h2 := z.2
      by_cases h0 : n = 0
      · subst h0
        rw [fa_le, nI_toInt hi, show (nI 0 - 1 : Int32).toInt = -1 by decide] at h2
        omega
      · rw [show nI n - 1 = nI (n - 1) from pk_sub (b := 1) (by omega)] at h2
        have := (nLe hi (by omega)).mp h2
        omega
def updL (f : Nat → Int64) (k : Nat) (v : Int64) : Nat → Int64 := fun j => if j = k then v else f j
theorem st_put (N : Nat) (hN : 2048 < N) {σ : Wd} (R : SRel σ) (x y : Int32) (v : Int64) : SStep (f_X9_put N x y v) (f_X10_put N x y v) σ := by
  obtain ⟨T, P, K, d, ar, sh, hW, hC, hX, hM⟩ := id R
  obtain ⟨w1, w2, w3, w4, w5⟩ := id hW
  rcases shc x with ⟨k, hk, rfl, hs⟩ | hs
  · have eX : f_X9_put N (nI k) y v σ = ((f_X5_isRow N (9 + k) σ).bind fun p3 => if p3.1 = 0 then (if (p3.2.1 (9 + k) 1) = (-1) then (some ((-11), p3.2)) else (some ((-12), p3.2))) else (if y < 0 then (some ((-13), p3.2)) else (if y < (p3.2.1 (9 + k) 2) then (if (p3.2.1 (9 + k) 1) = 1 then ((xstL p3.2 (9 + k + 28) 20 y (Int32.toInt64 ((Int32.toInt8 (Int64.toInt32 v)).toInt32))).bind fun σ4 => some (1, σ4)) else ((xstL p3.2 (9 + k + 28) 20 y v).bind fun σ5 => some (1, σ5))) else (some ((-13), p3.2))))) := by
      unfold f_X9_put
      rw [(hs N σ).1, obind]
      dsimp only
      rw [if_neg (show ¬ (1 : Int32) = 0 by decide), xsh_n hk]
    have eM : ∀ τ, f_X10_put N (nI k) y v τ = if τ.1 67 k < 0 then (f_X10_put_J28 N (nI k) τ) else (if τ.1 67 k = 2 then (f_X10_put_J28 N (nI k) τ) else ((xld τ 68 4 (nI k)).bind fun v5 => (f_X10_in N (Int32.toInt64 y) 0 (Int32.toInt64 (v5 - 1)) τ).bind fun p6 => if p6.1 = 0 then (some ((-13), p6.2)) else ((xld p6.2 67 4 (nI k)).bind fun v7 => if v7 = 1 then ((xstL p6.2 70 80 (nI (20 * k) + y) (Int32.toInt64 ((Int32.toInt8 (Int64.toInt32 v)).toInt32))).bind fun σ8 => some (1, σ8)) else ((xstL p6.2 70 80 (nI (20 * k) + y) v).bind fun σ9 => some (1, σ9))))) := fun τ => by
      unfold f_X10_put
      rw [(hs N τ).2, obind]
      dsimp only
      rw [if_neg (show ¬ (1 : Int32) = 0 by decide), xld_n (by omega) (by omega), obind, obind, show (20 : Int32) * nI k = nI (20 * k) from nMulL 20 k]
    have j28 : ∀ τ, f_X10_put_J28 N (nI k) τ = if 0 ≤ τ.1 67 k then some (-12, τ) else some (-11, τ) := fun τ => by
      unfold f_X10_put_J28
      rw [xld_n (by omega) (by omega), obind]
    have hc := hC.2.2.2.2 k hk
    have hm := hM.2.2.2.2 k hk
    have hww := w5 k hk
    match hsh : sh k, hc, hm, hww with
    | none, hc, hm, _ =>
      have c1 : σ.1 (9 + k) 1 = -1 := hc
      have c2 : σ.1 67 k = -1 := hm
      refine SStep.ref R (r := -11) ?_ ?_
      · rw [eX]
        unfold f_X5_isRow
        rw [c1, if_neg (by decide), if_neg (by decide), obind]
        dsimp only
        rw [if_pos rfl, c1, if_pos rfl]
      · rw [eM, c2, if_pos (by decide), j28, c2, if_neg (by decide)]
    | some (.inl bs), hc, hm, hww =>
      refine SStep.ref R (r := -12) ?_ ?_
      · rw [eX]
        unfold f_X5_isRow
        rw [hc.1, if_neg (by decide), if_neg (by decide), obind]
        dsimp only
        rw [if_pos rfl, hc.1, if_neg (by decide)]
      · rw [eM, hm.1, if_neg (by decide), if_pos rfl, j28, hm.1, if_pos (by decide)]
    | some (.inr (so, n, it)), hc, hm, hww =>
      obtain ⟨hso, hn⟩ := hww
      obtain ⟨c1, c2, c3⟩ := hc
      obtain ⟨m1, m2, m3⟩ := hm
      have n2 : ¬ nI so = 2 := neN (b := 2) (by omega) (by omega) (by omega)
      have n0 : ¬ nI so < 0 := neg_lt so (by omega)
      have eX2 : f_X9_put N (nI k) y v σ = (if y < 0 then (some ((-13), σ)) else (if y < nI n then (if nI so = 1 then ((xstL σ (37 + k) 20 y (Int32.toInt64 ((Int32.toInt8 (Int64.toInt32 v)).toInt32))).bind fun σ4 => some (1, σ4)) else ((xstL σ (37 + k) 20 y v).bind fun σ5 => some (1, σ5))) else (some ((-13), σ)))) := by
        have hr : f_X5_isRow N (9 + k) σ = some (1, σ) := by
          unfold f_X5_isRow
          rw [c1]
          have : so = 0 ∨ so = 1 := by omega
          rcases this with rfl | rfl
          · rw [if_pos (show nI 0 = 0 from rfl)]
          · rw [if_neg (show ¬ nI 1 = 0 by decide), if_pos (show nI 1 = 1 from rfl)]
        rw [eX, hr, obind]
        dsimp only
        rw [if_neg (show ¬ (1 : Int32) = 0 by decide), c1, c2, show 9 + k + 28 = 37 + k by omega]
      rcases ixc y hn with ⟨i, hi, rfl, q1, q2, q3⟩ | ⟨q1, q2⟩
      · have go : ∀ v', (nI so = 1 → v' = Int32.toInt64 ((Int32.toInt8 (Int64.toInt32 v)).toInt32)) → (¬ nI so = 1 → v' = v) → SStep (f_X9_put N (nI k) (nI i) v) (f_X10_put N (nI k) (nI i) v) σ := fun v' hv1 hv2 => by
          have F1 : Fr [9 + k, 37 + k] σ (sG σ (37 + k) i v') := (Fr.rf _ σ).G (by simp)
          refine SStep.mk hM (hW.shelf (k := k) (c := some (.inr (so, n, updL it i v'))) ⟨hso, hn⟩) (r := 1) (σ1 := sG σ (37 + k) i v') ?_ (FrX.shelf hk F1) (hC.shelf hk F1 (c := some (.inr (so, n, updL it i v'))) ⟨c1, c2, fun j hj => ?_⟩) (hX.shelf hk F1) (fun τ M => ?_)
          · rw [eX2, if_neg q1, if_pos q2]
            by_cases h1 : nI so = 1
            · rw [if_pos h1, xstL_n (by omega) (by omega), obind, hv1 h1]
            · rw [if_neg h1, xstL_n (by omega) (by omega), obind, hv2 h1]
          · rw [sG_2, if_pos rfl]
            unfold updL
            by_cases hji : j = i
            · rw [if_pos hji, if_pos hji]
            · rw [if_neg hji, if_neg hji]; exact c3 j hj
          · have hmt := M.2.2.2.2 k hk
            rw [hsh] at hmt
            obtain ⟨t1, t2, t3⟩ := hmt
            have F2 : FrM [67, 68, 69, 70] [] τ (sG τ 70 (20 * k + i) v') := (FrM.rf _ _ τ).G (by decide)
            refine ⟨sG τ 70 (20 * k + i) v', ?_, F2.y (by decide), M.shelf w5 F2 (fun j hj hjk => ⟨rfl, rfl, fun i _ => rfl, fun i2 hi2 => by rw [sG_2, if_pos rfl, if_neg (by omega)]⟩) (c := some (.inr (so, n, updL it i v'))) ⟨t1, t2, fun j hj => ?_⟩⟩
            · rw [eM, t1, if_neg n0, if_neg n2, xld_n (by omega) (by omega), obind, t2, in_y N (lo := 0) (hi := nI n - 1) (by decide) rfl q3, obind]
              dsimp only
              rw [if_neg (show ¬ (1 : Int32) = 0 by decide), xld_n (by omega) (by omega), obind, t1, nI_add]
              by_cases h1 : nI so = 1
              · rw [if_pos h1, xstL_n (by omega) (by omega), obind, hv1 h1]
              · rw [if_neg h1, xstL_n (by omega) (by omega), obind, hv2 h1]
            · rw [sG_2, if_pos rfl]
              unfold updL
              by_cases hji : j = i
              · rw [if_pos (by omega), if_pos hji]
              · rw [if_neg (by omega), if_neg hji]; exact t3 j hj
        by_cases h1 : nI so = 1
        · exact go _ (fun _ => rfl) (fun z => absurd h1 z)
        · exact go v (fun z => absurd z h1) (fun _ => rfl)
      · refine SStep.ref R (r := -13) ?_ ?_
        · rw [eX2]
          by_cases h0 : y < 0
          · rw [if_pos h0]
          · rw [if_neg h0, if_neg (q1.resolve_left h0)]
        · rw [eM, m1, if_neg n0, if_neg n2, xld_n (by omega) (by omega), obind, m2, in_n N (lo := 0) (hi := nI n - 1) (by decide) rfl q2, obind]; rfl
  · refine SStep.ref R (r := -1) ?_ ?_
    · unfold f_X9_put
      rw [(hs N σ).1, obind]; rfl
    · unfold f_X10_put
      rw [(hs N σ).2, obind]; rfl
theorem st_get (N : Nat) (hN : 2048 < N) {σ : Wd} (R : SRel σ) (x y : Int32) : SStep (f_X9_get N x y) (f_X10_get N x y) σ := by
  obtain ⟨T, P, K, d, ar, sh, hW, hC, hX, hM⟩ := id R
  obtain ⟨w1, w2, w3, w4, w5⟩ := id hW
  have j44 : f_X10_get_J44 N x y σ = some (-9223372036854775808, σ) := by
    unfold f_X10_get_J44 f_X10_get_J45
    rw [if_pos rfl]
  rcases shc x with ⟨k, hk, rfl, hs⟩ | hs
  · have eX : f_X9_get N (nI k) y σ = ((f_X5_isRow N (9 + k) σ).bind fun p3 => if p3.1 = 0 then (some ((-9223372036854775808), p3.2)) else (if y < 0 then (some ((-9223372036854775808), p3.2)) else (if (p3.2.1 (9 + k) 2) ≤ y then (some ((-9223372036854775808), p3.2)) else ((xldL p3.2 (9 + k + 28) 20 y).bind fun v4 => some (v4, p3.2))))) := by
      unfold f_X9_get
      rw [(hs N σ).1, obind]
      dsimp only
      rw [if_neg (show ¬ (1 : Int32) = 0 by decide), xsh_n hk]
    have eM : f_X10_get N (nI k) y σ = ((f_X10_in N (Int32.toInt64 (σ.1 67 k)) 0 1 σ).bind fun p4 => if p4.1 = 0 then (f_X10_get_J44 N (nI k) y p4.2) else ((xld p4.2 68 4 (nI k)).bind fun v5 => (f_X10_in N (Int32.toInt64 y) 0 (Int32.toInt64 (v5 - 1)) p4.2).bind fun p6 => if p6.1 = 0 then (f_X10_get_J44 N (nI k) y p6.2) else (f_X10_get_J45 N (nI k) y 1 p6.2))) := by
      unfold f_X10_get
      rw [(hs N σ).2, obind]
      dsimp only
      rw [if_neg (show ¬ (1 : Int32) = 0 by decide), xld_n (by omega) (by omega), obind]
    have hc := hC.2.2.2.2 k hk
    have hm := hM.2.2.2.2 k hk
    have hww := w5 k hk
    match hsh : sh k, hc, hm, hww with
    | none, hc, hm, _ =>
      have c1 : σ.1 (9 + k) 1 = -1 := hc
      have c2 : σ.1 67 k = -1 := hm
      refine SStep.ref R (r := -9223372036854775808) ?_ ?_
      · rw [eX]
        unfold f_X5_isRow
        rw [c1, if_neg (by decide), if_neg (by decide), obind]
        rfl
      · rw [eM, c2, in_n N (lo := 0) (hi := 1) (by decide) (by decide) (by decide), obind]
        dsimp only
        rw [if_pos rfl, j44]
    | some (.inl bs), hc, hm, hww =>
      refine SStep.ref R (r := -9223372036854775808) ?_ ?_
      · rw [eX]
        unfold f_X5_isRow
        rw [hc.1, if_neg (by decide), if_neg (by decide), obind]
        rfl
      · rw [eM, hm.1, in_n N (lo := 0) (hi := 1) (by decide) (by decide) (by decide), obind]
        dsimp only
        rw [if_pos rfl, j44]
    | some (.inr (so, n, it)), hc, hm, hww =>
      obtain ⟨hso, hn⟩ := hww
      obtain ⟨c1, c2, c3⟩ := hc
      obtain ⟨m1, m2, m3⟩ := hm
      have hr : f_X5_isRow N (9 + k) σ = some (1, σ) := by
        unfold f_X5_isRow
        rw [c1]
        have : so = 0 ∨ so = 1 := by omega
        rcases this with rfl | rfl
        · rw [if_pos (show nI 0 = 0 from rfl)]
        · rw [if_neg (show ¬ nI 1 = 0 by decide), if_pos (show nI 1 = 1 from rfl)]
      have hin : (0 : Int32) ≤ nI so ∧ nI so ≤ 1 := ⟨nI_pos' (by omega), (nLe (b := 1) (by omega) (by omega)).mpr (by omega)⟩
      rw [hr, obind] at eX
      dsimp only at eX
      rw [if_neg (show ¬ (1 : Int32) = 0 by decide), c2, show 9 + k + 28 = 37 + k by omega] at eX
      rw [m1, in_y N (lo := 0) (hi := 1) (by decide) (by decide) hin, obind] at eM
      dsimp only at eM
      rw [if_neg (show ¬ (1 : Int32) = 0 by decide), xld_n (by omega) (by omega), obind, m2] at eM
      rcases ixc y hn with ⟨i, hi, rfl, q1, q2, q3⟩ | ⟨q1, q2⟩
      · refine SStep.ref R (r := it i) ?_ ?_
        · rw [eX, if_neg q1, if_neg (nGe q2), xldL_n (by omega) (by omega), obind, c3 i hi]
        · rw [eM, in_y N (lo := 0) (hi := nI n - 1) (by decide) rfl q3, obind]
          dsimp only
          rw [if_neg (show ¬ (1 : Int32) = 0 by decide)]
          unfold f_X10_get_J45
          rw [if_neg (show ¬ (1 : Int32) = 0 by decide), show (20 : Int32) * nI k = nI (20 * k) from nMulL 20 k, nI_add, xldL_n (by omega) (by omega), obind, m3 i hi]
      · refine SStep.ref R (r := -9223372036854775808) ?_ ?_
        · rw [eX]
          by_cases h0 : y < 0
          · rw [if_pos h0]
          · rw [if_neg h0, if_pos (gLe (q1.resolve_left h0))]
        · rw [eM, in_n N (lo := 0) (hi := nI n - 1) (by decide) rfl q2, obind]
          dsimp only
          rw [if_pos rfl, j44]
  · refine SStep.ref R (r := -9223372036854775808) ?_ ?_
    · unfold f_X9_get
      rw [(hs N σ).1, obind]; rfl
    · unfold f_X10_get
      rw [(hs N σ).2, obind]
      dsimp only
      rw [if_pos rfl, j44]
end
