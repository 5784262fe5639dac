section
/-! Steps: shelve, taken, row, put, get. -/
theorem shc (x : Int32) : (∃ k, k < 4 ∧ x = nI k ∧ ∀ N σ, f_X9_isShelf N x σ = some (1, σ) ∧ f_X10_isShelf N x σ = some (1, σ)) ∨ ∀ N σ, f_X9_isShelf N x σ = some (0, σ) ∧ f_X10_isShelf N x σ = some (0, σ) := by
  rcases rng x 0 3 (by omega) (by omega) with ⟨k, -, hk, rfl⟩ | ⟨h1, h2⟩
  · left
    refine ⟨k, by omega, rfl, fun N σ => ⟨?_, ?_⟩⟩
    · unfold f_X9_isShelf
      rw [if_neg (show ¬ nI k < 0 from neg_lt k (by omega)), if_neg (show ¬ (4 : Int32) ≤ nI k from fun z => by have := (nLe (a := 4) (by omega) (by omega)).mp z; omega)]
    · unfold f_X10_isShelf
      rw [in_y N (lo := 0) (hi := 3) (by decide) (by decide) ⟨nI_pos' (by omega), (nLe (b := 3) (by omega) (by omega)).mpr hk⟩, obind]; rfl
  · right
    refine fun N σ => ⟨?_, ?_⟩
    · unfold f_X9_isShelf
      by_cases h3 : x < 0
      · rw [if_pos h3]
      · rw [if_neg h3, if_pos]
        have h4 := h2.resolve_left h3
        rw [fa_lt, nI_toInt (by omega)] at h4
        rw [fa_le, show (4 : Int32).toInt = 4 by decide]; omega
    · unfold f_X10_isShelf
      rw [in_n N (lo := 0) (hi := 3) (by decide) (by decide) h1, obind]; rfl
theorem xsh_n {β : Type} {k : Nat} (hk : k < 4) (f : Nat → Option β) : xsh (nI k) f = f (9 + k) := by
  have : k = 0 ∨ k = 1 ∨ k = 2 ∨ k = 3 := by omega
  unfold xsh
  rcases this with rfl | rfl | rfl | rfl
  · rw [if_pos (show nI 0 = 0 from rfl)]
  · rw [if_neg (show ¬ nI 1 = 0 by decide), if_pos (show nI 1 = 1 from rfl)]
  · rw [if_neg (show ¬ nI 2 = 0 by decide), if_neg (show ¬ nI 2 = 1 by decide), if_pos (show nI 2 = 2 from rfl)]
  · rw [if_neg (show ¬ nI 3 = 0 by decide), if_neg (show ¬ nI 3 = 1 by decide), if_neg (show ¬ nI 3 = 2 by decide), if_pos (show nI 3 = 3 from rfl)]
theorem CC.shelf {σ τ : Wd} {T : Txt} {P : Pl} {K : List Blk} {d ar : Nat → Nat} {sh : Shv} (h : CC σ T P K d ar sh) {k : Nat} (hk : k < 4) (F : Fr [9 + k, 37 + k] σ τ) {c : ShC} (hc : CShk τ k c) : CC τ T P K d ar (updS sh k c) := ⟨h.1.fr F (by simp; omega) (by simp; omega), h.2.1.fr F (by simp; omega) (by simp; omega) (by simp; omega), h.2.2.1.fr F (by simp; omega) (by simp; omega), h.2.2.2.1.fr F (by simp; omega) (by simp; omega), fun j hj => by
  unfold updS
  by_cases hjk : j = k
  · subst hjk; rw [if_pos rfl]; exact hc
  · rw [if_neg hjk]
    exact (h.2.2.2.2 j hj).eq (fun b => F.i (by simp; omega) b) (fun b => F.l (by simp; omega) b) (fun b => F.l (by simp; omega) b)⟩
theorem FrX.shelf {σ τ : Wd} {k : Nat} (hk : k < 4) (F : Fr [9 + k, 37 + k] σ τ) : FrX σ τ := fun a ha => F a (by simp; omega)
theorem CX.shelf {σ τ : Wd} {d ar : Nat → Nat} (h : CX σ d ar) {k : Nat} (hk : k < 4) (F : Fr [9 + k, 37 + k] σ τ) : CX τ d ar := h.fr F (by simp; omega) (by simp; omega) (by simp; omega) (by simp; omega)
theorem MI.shelf {σ τ : Wd} {T : Txt} {P : Pl} {K : List Blk} {d ar : Nat → Nat} {sh : Shv} (h : MI σ T P K d ar sh) (hw : ∀ k, k < 4 → WSh (sh k)) {k : Nat} (F : FrM [67, 68, 69, 70] [] σ τ) (q : ∀ j, j < 4 → j ≠ k → τ.1 67 j = σ.1 67 j ∧ τ.1 68 j = σ.1 68 j ∧ (∀ i, i < 8 → τ.1 69 (8 * j + i) = σ.1 69 (8 * j + i)) ∧ ∀ i, i < 20 → τ.2 70 (20 * j + i) = σ.2 70 (20 * j + i)) {c : ShC} (hc : MShk τ k c) : MI τ T P K d ar (updS sh k c) := ⟨h.1.fr F (by decide) (by decide), h.2.1.fr F (by decide) (by decide) (by decide) (by decide) (by decide), h.2.2.1.fr F (by decide) (by decide) (by decide), h.2.2.2.1.fr F (by decide) (by decide), fun j hj => by
  unfold updS
  by_cases hjk : j = k
  · subst hjk; rw [if_pos rfl]; exact hc
  · rw [if_neg hjk]
    obtain ⟨q1, q2, q3, q4⟩ := q j hj hjk
    exact (h.2.2.2.2 j hj).eq q1 q2 q3 q4 (hw j hj)⟩
theorem WSt.shelf {T : Txt} {P : Pl} {K : List Blk} {d ar : Nat → Nat} {sh : Shv} (h : WSt T P K d ar sh) {k : Nat} {c : ShC} (hc : WSh c) : WSt T P K d ar (updS sh k c) := ⟨h.1, h.2.1, h.2.2.1, h.2.2.2.1, fun j hj => by
  unfold updS
  by_cases hjk : j = k
  · rw [if_pos hjk]; exact hc
  · rw [if_neg hjk]; exact h.2.2.2.2 j hj⟩
theorem st_shelve (N : Nat) (hN : 2048 < N) {σ : Wd} (R : SRel σ) (x y : Int32) : SStep (f_X9_shelve N x y) (f_X10_shelve N x y) σ := by
  obtain ⟨T, P, K, d, ar, sh, hW, hC, hX, hM⟩ := id R
  obtain ⟨w1, w2, w3, w4, w5⟩ := id hW
  have hP := w2.1
  rcases shc x with ⟨k, hk, rfl, hs⟩ | hs
  · by_cases hy : y = -1
    · subst hy
      have F1 : Fr [9 + k, 37 + k] σ (sF σ (9 + k) 1 (-1)) := (Fr.rf _ σ).F (by simp)
      refine SStep.mk hM (hW.shelf (k := k) (c := none) trivial) (r := 1) (σ1 := sF σ (9 + k) 1 (-1)) ?_ (FrX.shelf hk F1) (hC.shelf hk F1 (c := none) sF_eq) (hX.shelf hk F1) (fun τ M => ?_)
      · unfold f_X9_shelve
        rw [(hs N σ).1, obind]
        dsimp only
        rw [if_neg (show ¬ (1 : Int32) = 0 by decide), if_pos rfl]
        unfold f_X9_shelve_J25
        rw [if_pos rfl, xsh_n hk]
      · have F2 : FrM [67, 68, 69, 70] [] τ (sF (sF τ 67 k (-1)) 68 k 0) := ((FrM.rf _ _ τ).F (by decide) (by decide)).F (by decide) (by decide)
        refine ⟨sF (sF τ 67 k (-1)) 68 k 0, ?_, F2.y (by decide), M.shelf w5 F2 (fun j hj hjk => ⟨by rw [sF_ne (by decide), sF_nb hjk], by rw [sF_nb hjk, sF_ne (by decide)], fun i _ => by rw [sF_ne (by decide), sF_ne (by decide)], fun i _ => rfl⟩) (c := none) (show (sF (sF τ 67 k (-1)) 68 k 0).1 67 k = -1 by rw [sF_ne (by decide), sF_eq])⟩
        unfold f_X10_shelve
        rw [(hs N τ).2, obind]
        dsimp only
        rw [if_neg (show ¬ (1 : Int32) = 0 by decide), if_pos rfl]
        unfold f_X10_shelve_J22
        rw [if_neg (show ¬ (0 : Int32) ≤ -1 by decide)]
        unfold f_X10_shelve_J36
        rw [xst_n (by omega) (by omega), obind, if_neg (show ¬ (0 : Int32) ≤ -1 by decide), xst_n (by omega) (by omega), obind]
        obtain ⟨f2, rfl⟩ : ∃ f2, N = f2 + 1 := ⟨N - 1, by omega⟩
        rw [f_X10_shelve_L59, xld_n (by omega) (by omega), obind, sF_eq, if_pos (by decide)]
        rfl
    · rcases plc P hP y with ⟨n, p, rfl, hn, hp⟩ | hyn
      · obtain ⟨-, Vp, hne⟩ := w2.at hp
        have Vp1 := Vp.1
        have F1 : Fr [9 + k, 37 + k] σ (sG (sF σ (9 + k) 1 2) (9 + k) 3 (lN (bcode p.2))) := ((Fr.rf _ σ).F (by simp)).G (by simp)
        refine SStep.mk hM (hW.shelf (k := k) (c := some (.inl p.2)) ⟨Vp, hne⟩) (r := 1) (σ1 := sG (sF σ (9 + k) 1 2) (9 + k) 3 (lN (bcode p.2))) ?_ (FrX.shelf hk F1) (hC.shelf hk F1 (c := some (.inl p.2)) ⟨by rw [sG_1, sF_eq], by rw [sG_2, if_pos rfl, if_pos rfl]⟩) (hX.shelf hk F1) (fun τ M => ?_)
        · unfold f_X9_shelve
          rw [(hs N σ).1, obind]
          dsimp only
          rw [if_neg (show ¬ (1 : Int32) = 0 by decide), if_neg hy, has_y N hC.2.1 hP hn, obind]
          dsimp only
          rw [if_neg (show ¬ (1 : Int32) = 0 by decide)]
          unfold f_X9_shelve_J25
          rw [if_neg hy, xsh_n hk, xldL_n (by omega) (by omega), obind, (hC.2.1.2 n p hp).2]
          rfl
        · obtain ⟨-, -, m3, m4⟩ := M.2.1.2 n p hp
          have F0 : FrM [67, 68, 69, 70] [] τ (sF (sF τ 67 k 2) 68 k (nI p.2.length)) := ((FrM.rf _ _ τ).F (by decide) (by decide)).F (by decide) (by decide)
          obtain ⟨τ1, ⟨F, h1, h2⟩, e⟩ := lp_up (g := fun fu i s => f_X10_shelve_L59 N (f_X10_shelve_J97 N) fu (nI k) (nI n) (nI i) s) (E := fun s => f_X10_shelve_J97 N s) (P := fun i s => FrM [69] [] (sF (sF τ 67 k 2) 68 k (nI p.2.length)) s ∧ (∀ j b, j < i → p.2[j]? = some b → s.1 69 (8 * k + j) = nI (10 * b.1 + b.2)) ∧ ∀ q, (q < 8 * k ∨ 8 * k + 8 ≤ q) → s.1 69 q = τ.1 69 q) (m := p.2.length) (fun fu i s hi ⟨F, h1, h2⟩ => by
              have hb : p.2[i]? = some p.2[i] := List.getElem?_eq_getElem hi
              refine ⟨sF s 69 (8 * k + i) (nI (10 * p.2[i].1 + p.2[i].2)), ⟨F.F (by decide) (by decide), fun j b hj hb2 => ?_, fun q hq => ?_⟩, ?_⟩
              · by_cases hji : j = i
                · subst hji
                  rw [hb] at hb2; cases hb2
                  rw [sF_eq]
                · rw [sF_nb (by omega)]; exact h1 j b (by omega) hb2
              · rw [sF_nb (by omega)]; exact h2 q hq
              · rw [f_X10_shelve_L59, xld_n (by omega) (by omega), obind, F.i (by decide) (by decide), sF_eq, if_neg (fun z => by have := (nLe (by omega) (by omega)).mp z; omega), show (8 : Int32) * nI n = nI (8 * n) from nMulL 8 n, nI_add, xld_n (by omega) (by omega), obind, F.i (by decide) (by decide), sF_ne (show 44 ≠ 68 by decide), sF_ne (show 44 ≠ 67 by decide), m4 i _ hb, show (8 : Int32) * nI k = nI (8 * k) from nMulL 8 k, nI_add, xst_n (by omega) (by omega), obind, nI_1]) (fun fu s ⟨F, _, _⟩ => by
              rw [f_X10_shelve_L59, xld_n (by omega) (by omega), obind, F.i (by decide) (by decide), sF_eq, if_pos ((nLe (by omega) (by omega)).mpr (Nat.le_refl _))]) p.2.length N 0 (sF (sF τ 67 k 2) 68 k (nI p.2.length)) (by omega) (by omega) ⟨FrM.rf _ _ _, fun j b hj => absurd hj (Nat.not_lt_zero j), fun q _ => by rw [sF_ne (by decide), sF_ne (by decide)]⟩
          refine ⟨τ1, ?_, (F0.y (by decide)).tr (F.y (by decide)), M.shelf w5 (F0.tr (F.mo (by decide) (by decide))) (fun j hj hjk => ⟨by rw [F.i (by decide) (by decide), sF_ne (by decide), sF_nb hjk], by rw [F.i (by decide) (by decide), sF_nb hjk, sF_ne (by decide)], fun i hi => h2 _ (by omega), fun i _ => by rw [F.l (by decide)]; rfl⟩) (c := some (.inl p.2)) ⟨by rw [F.i (by decide) (by decide), sF_ne (by decide), sF_eq], by rw [F.i (by decide) (by decide), sF_eq], fun j b hb => h1 j b (List.getElem?_eq_some_iff.mp hb).1 hb⟩⟩
          unfold f_X10_shelve
          rw [(hs N τ).2, obind]
          dsimp only
          rw [if_neg (show ¬ (1 : Int32) = 0 by decide), if_neg hy, isPlan_y N M.2.1 hP hn, obind]
          dsimp only
          rw [if_neg (show ¬ (1 : Int32) = 0 by decide)]
          unfold f_X10_shelve_J22
          rw [if_pos (nI_pos' (by omega))]
          unfold f_X10_shelve_J36
          rw [xst_n (by omega) (by omega), obind, if_pos (nI_pos' (by omega)), xld_n (by omega) (by omega), obind, sF_ne (show 45 ≠ 67 by decide), m3, xst_n (by omega) (by omega), obind]
          exact e
      · refine SStep.ref R (r := -1) ?_ ?_
        · unfold f_X9_shelve
          rw [(hs N σ).1, obind]
          dsimp only
          rw [if_neg (show ¬ (1 : Int32) = 0 by decide), if_neg hy, has_n N hC.2.1 hyn, obind]; rfl
        · unfold f_X10_shelve
          rw [(hs N σ).2, obind]
          dsimp only
          rw [if_neg (show ¬ (1 : Int32) = 0 by decide), if_neg hy, isPlan_n N hM.2.1 hP hyn, obind]; rfl
  · refine SStep.ref R (r := -1) ?_ ?_
    · unfold f_X9_shelve
      rw [(hs N σ).1, obind]; rfl
    · unfold f_X10_shelve
      rw [(hs N σ).2, obind]; rfl
theorem st_taken (N : Nat) (hN : 2048 < N) {σ : Wd} (R : SRel σ) (x y : Int32) : SStep (f_X9_taken N x y) (f_X10_taken N x y) σ := by
  obtain ⟨T, P, K, d, ar, sh, hW, hC, hX, hM⟩ := id R
  obtain ⟨w1, w2, w3, w4, w5⟩ := id hW
  have hP := w2.1
  have hK := w3.1
  rcases shc x with ⟨k, hk, rfl, hs⟩ | hs
  · rcases rng y 0 2 (by omega) (by omega) with ⟨m, -, hm, rfl⟩ | ⟨h1, h2⟩
    · have qm : (0 : Int32) ≤ nI m ∧ nI m ≤ 2 := ⟨nI_pos' (by omega), (nLe (b := 2) (by omega) (by omega)).mpr hm⟩
      have eX : f_X9_taken N (nI k) (nI m) σ = if (σ.1 (9 + k) 1) = 2 then (if nI m = 0 then ((f_X0_width N (σ.2 (9 + k) 3) σ).bind fun p3 => some (p3.1, p3.2)) else (if nI m = 1 then ((f_X1_holds N (σ.2 (9 + k) 3) σ).bind fun p4 => if p4.1 = 0 then (some (0, p4.2)) else (some (1, p4.2))) else ((f_X3_amountWith N (σ.2 (9 + k) 3) σ).bind fun p5 => some (p5.1, p5.2)))) else (if (σ.1 (9 + k) 1) = (-1) then (some ((-11), σ)) else (some ((-12), σ))) := by
        unfold f_X9_taken
        rw [(hs N σ).1, obind]
        dsimp only
        rw [if_neg (show ¬ (1 : Int32) = 0 by decide), if_neg (nGt qm.1), if_pos qm.2, xsh_n hk]
      have eM : f_X10_taken N (nI k) (nI m) σ = if (σ.1 67 k) = 2 then (if nI m = 0 then ((xld σ 68 4 (nI k)).bind fun v4 => (f_X10_widthOf N 69 32 (nI (8 * k)) v4 σ).bind fun p5 => some (p5.1, p5.2)) else (f_X10_taken_L75 N (f_X10_taken_J134 N) N (nI k) (nI m) 0 0 σ)) else (if 0 ≤ σ.1 67 k then (some ((-12), σ)) else (some ((-11), σ))) := by
        unfold f_X10_taken
        rw [(hs N σ).2, obind]
        dsimp only
        rw [if_neg (show ¬ (1 : Int32) = 0 by decide), in_y N (lo := 0) (hi := 2) (by decide) (by decide) qm, obind]
        dsimp only
        rw [if_neg (show ¬ (1 : Int32) = 0 by decide), xld_n (by omega) (by omega), obind, obind, show (8 : Int32) * nI k = nI (8 * k) from nMulL 8 k]
      have hc := hC.2.2.2.2 k hk
      have hm2 := hM.2.2.2.2 k hk
      have hww := w5 k hk
      match hsh : sh k, hc, hm2, hww with
      | none, hc, hm2, _ =>
        have c1 : σ.1 (9 + k) 1 = -1 := hc
        have c2 : σ.1 67 k = -1 := hm2
        rw [c1, if_neg (by decide), if_pos rfl] at eX
        rw [c2, if_neg (by decide), if_neg (by decide)] at eM
        exact SStep.ref R eX eM
      | some (.inr (so, n, it)), hc, hm2, hww =>
        have hso : so < 2 := hww.1
        have n2 : ¬ nI so = 2 := neN (b := 2) (by omega) (by omega) (by omega)
        rw [hc.1, if_neg n2, if_neg (nM (by omega)).1] at eX
        rw [hm2.1, if_neg n2, if_pos (nI_pos' (by omega))] at eM
        exact SStep.ref R eX eM
      | some (.inl bs), hc, hm2, hww =>
        obtain ⟨Vb, hb⟩ := hww
        have Vb1 := Vb.1
        rw [hc.1, if_pos rfl, hc.2] at eX
        rw [hm2.1, if_pos rfl] at eM
        have hm4 : m = 0 ∨ (m = 1 ∨ m = 2) := by omega
        rcases hm4 with rfl | hm4
        · rw [if_pos (show nI 0 = 0 from rfl), width_ok N (by omega) Vb, obind] at eX
          rw [if_pos (show nI 0 = 0 from rfl), xld_n (by omega) (by omega), obind, hm2.2.1, widthOf_ok N hN Vb hm2.2.2 (by omega) (by decide), obind] at eM
          exact SStep.ref R eX eM
        · have m0 : ¬ nI m = 0 := neN (b := 0) (by omega) (by omega) (by omega)
          rw [if_neg m0] at eX eM
          have hl : f_X10_taken_L75 N (f_X10_taken_J134 N) N (nI k) (nI m) 0 0 σ = f_X10_taken_J134 N (nI k) (nI m) (nI (withP P bs)) σ := by
            unfold withP
            generalize hQ : (fun i : Nat => decide ((P[i]?).map Prod.snd = some bs)) = Q
            obtain ⟨c, rfl, e⟩ := lp_up (g := fun fu i c => f_X10_taken_L75 N (f_X10_taken_J134 N) fu (nI k) (nI m) c (nI i) σ) (E := fun c => f_X10_taken_J134 N (nI k) (nI m) c σ) (P := fun i c => c = nI (ctb Q i)) (m := P.length) (fun fu i c hi hc => by
                subst hc
                have hp : P[i]? = some P[i] := List.getElem?_eq_getElem hi
                obtain ⟨-, -, m3, m4⟩ := hM.2.1.2 i _ hp
                have Vi := (w2.at hp).2.1
                have Vi1 := Vi.1
                have hq : Q i = true ↔ P[i].2 = bs := by
                  rw [← hQ]
                  show decide _ = true ↔ _
                  rw [decide_eq_true_eq, hp]
                  exact ⟨fun z => Option.some.inj z, fun z => by rw [← z]; rfl⟩
                have hal := alikeB_ok N hN Vi Vb m4 hm2.2.2 (L0 := 96) (L3 := 32) (by omega) (by omega) (by decide) (by decide)
                refine ⟨nI (ctb Q (i + 1)), rfl, ?_⟩
                rw [f_X10_taken_L75, hM.2.1.1, if_neg (fun z => by have := (nLe (by omega) (by omega)).mp z; omega), xld_n (by omega) (by omega), obind, xld_n (by omega) (by omega), obind, m3, hm2.2.1, show (8 : Int32) * nI i = nI (8 * i) from nMulL 8 i, show (8 : Int32) * nI k = nI (8 * k) from nMulL 8 k, hal, obind, ctb]
                dsimp only
                by_cases hc : Q i = true
                · rw [if_pos (hq.mp hc), if_neg (show ¬ (1 : Int32) = 0 by decide), if_pos hc, nI_1, nI_1]
                · rw [if_neg (fun z => hc (hq.mpr z)), if_pos rfl, if_neg hc, nI_1, show nI (ctb Q i) + 0 = nI (ctb Q i) from nAddR _ 0]; rfl) (fun fu c hc => by
                rw [f_X10_taken_L75, hM.2.1.1, if_pos ((nLe (by omega) (by omega)).mpr (Nat.le_refl _))]) P.length N 0 0 (by omega) (by omega) rfl
            exact e
          rw [hl] at eM
          unfold f_X10_taken_J134 at eM
          rcases hm4 with rfl | rfl
          · rw [if_pos (show nI 1 = 1 from rfl), holds_ok N (by omega) hC.2.2.1 w3 Vb, obind] at eX
            rw [if_neg (show ¬ nI 1 = 2 by decide), xld_n (by omega) (by omega), obind, hm2.2.1, show (8 : Int32) * nI k = nI (8 * k) from nMulL 8 k, placeKnown_ok N hN hM.2.2.1 w3 Vb hm2.2.2 (by omega) (by decide), obind] at eM
            dsimp only at eX eM
            by_cases hcc : kix K bs < K.length
            · rw [if_pos hcc, if_neg (show ¬ (1 : Int32) = 0 by decide)] at eX
              rw [if_pos hcc, if_neg (show ¬ nI (kix K bs) < 0 from neg_lt _ (by omega))] at eM
              exact SStep.ref R eX eM
            · rw [if_neg hcc, if_pos rfl] at eX
              rw [if_neg hcc, if_pos (by decide)] at eM
              exact SStep.ref R eX eM
          · rw [if_neg (show ¬ nI 2 = 1 by decide), amountWith_ok N (by omega) hC.2.1 w2 Vb, obind] at eX
            rw [if_pos (show nI 2 = 2 from rfl)] at eM
            exact SStep.ref R eX eM
    · refine SStep.ref R (r := -1) ?_ ?_
      · unfold f_X9_taken
        rw [(hs N σ).1, obind]
        dsimp only
        rw [if_neg (show ¬ (1 : Int32) = 0 by decide)]
        by_cases h3 : y < 0
        · rw [if_pos h3]
        · rw [if_neg h3, if_neg (show ¬ y ≤ 2 from nGe (h2.resolve_left h3))]
      · unfold f_X10_taken
        rw [(hs N σ).2, obind]
        dsimp only
        rw [if_neg (show ¬ (1 : Int32) = 0 by decide), in_n N (lo := 0) (hi := 2) (by decide) (by decide) h1, obind]; rfl
  · refine SStep.ref R (r := -1) ?_ ?_
    · unfold f_X9_taken
      rw [(hs N σ).1, obind]; rfl
    · unfold f_X10_taken
      rw [(hs N σ).2, obind]; rfl
end
