section
/-! Steps over nets: gates, latest, deep, hangs, times, adds, settles. -/
theorem c_build (N : Nat) (hN : 2048 < N) {σ : Wd} {P : Pl} (C : CPl σ P) (W : WP P) {n : Nat} {p : List Nat × Blk} (hp : P[n]? = some p) : ∃ τ m den, f_X9_buildNetOf N (nI n) σ = some τ ∧ CLS τ m den (nets p.2) ∧ Fr [4, 18, 19, 20, 22, 23, 24, 26, 27, 28, 29] σ τ := by
  have hn := (List.getElem?_eq_some_iff.mp hp).1
  have hP := W.1
  have V := (W.at hp).2.1
  have hw := V.2.2
  unfold f_X9_buildNetOf
  obtain ⟨τ1, e1, S1, F1⟩ := clear_ok N (by omega) σ
  rw [e1, obind, xldL_n (by omega) (by omega), obind, F1.fr.l (by decide), (C.2 n p hp).2]
  obtain ⟨τ2, m, den, e2, S2, X2, F2⟩ := build_ok N (by omega) V S1.1 (by omega)
  rw [e2, obind]
  exact ⟨τ2, m, den, rfl, S2, F1.fr.tr F2.fr⟩
theorem m_lays (N : Nat) (hN : 2048 < N) {σ : Wd} {P : Pl} (M : MPl σ P) (W : WP P) {d ar : Nat → Nat} (hD : MDA σ d ar) (hb : dab d ar) {n : Nat} {p : List Nat × Blk} (hp : P[n]? = some p) : ∃ (τ : Wd) (m : Nat) (kd l r den oz : Nat → Nat), f_X10_laysPlan N (nI n) σ = some τ ∧ LDp τ m kd l r den oz p.2 d ar ∧ FrM layC layF σ τ := by
  have hn := (List.getElem?_eq_some_iff.mp hp).1
  have hP := W.1
  have V := (W.at hp).2.1
  have hV := V.1
  obtain ⟨-, -, m3, m4⟩ := M.2 n p hp
  unfold f_X10_laysPlan
  rw [xld_n (by omega) (by omega), obind, m3, show (8 : Int32) * nI n = nI (8 * n) from nMulL 8 n]
  obtain ⟨τ, m, kd, l, r, den, oz, e, H, F⟩ := mlays_ok N hN V m4 (by decide) (by decide) (L := 96) (by omega) (by decide) hD hb
  rw [e, obind]
  exact ⟨τ, m, kd, l, r, den, oz, rfl, H, F⟩
theorem kind_c (y : Int32) : (∃ k : Option Nat, (∀ q, k = some q → q < 4) ∧ y = kindI k ∧ ¬ y < -1 ∧ y ≤ 3) ∨ (¬ ((-1 : Int32) ≤ y ∧ y ≤ 3) ∧ (y < -1 ∨ 3 < y)) := by
  by_cases h1 : -1 ≤ y
  · by_cases h2 : y ≤ 3
    · left
      rcases i32m1 h1 with rfl | ⟨n, hn, rfl⟩
      · exact ⟨none, (fun q hq => by cases hq), rfl, by decide, h2⟩
      · have := (nLe (b := 3) hn (by omega)).mp h2
        exact ⟨some n, (fun q hq => by cases hq; omega), rfl, nGt h1, h2⟩
    · exact Or.inr ⟨fun z => h2 z.2, Or.inr (gLt h2)⟩
  · exact Or.inr ⟨fun z => h1 z.1, Or.inl (gLt h1)⟩
theorem CC.asked {σ τ : Wd} {T : Txt} {P : Pl} {K : List Blk} {d ar : Nat → Nat} {sh : Shv} (h : CC σ T P K d ar sh) (F : Fr [3, 17] σ τ) {bs : Blk} (hK : CKn τ (askK K bs)) : CC τ T P (askK K bs) d ar sh := h.knwn F hK
theorem st_gates (N : Nat) (hN : 2048 < N) {σ : Wd} (R : SRel σ) (x y : Int32) : SStep (f_X9_gates N x y) (f_X10_gates N x y) σ := by
  obtain ⟨T, P, K, d, ar, sh, hW, hC, hX, hM⟩ := id R
  obtain ⟨w1, w2, w3, w4, w5⟩ := id hW
  have hP := w2.1
  rcases plc P hP x with ⟨n, p, rfl, hn, hp⟩ | hx
  · obtain ⟨-, Vp, hne⟩ := w2.at hp
    rcases kind_c y with ⟨k, hk, rfl, q1, q2⟩ | ⟨h1, h2⟩
    · obtain ⟨τ1, e1, K1, F1⟩ := ask_ok N (by omega) hC.2.2.1 w3 Vp
      have C1 := hC.knwn F1 K1
      obtain ⟨τ2, m, den, e2, S2, F2⟩ := c_build N hN C1.2.1 w2 hp
      obtain ⟨τ3, e3, F3, G3⟩ := gates_cls N (by omega) S2 Vp.2.2
      refine SStep.mk hM (⟨w1, w2, w3.ask Vp hne, w4, w5⟩ : WSt T P (askK K p.2) d ar sh) (r := nI (gcnt (OUT p.2) k)) (σ1 := τ3) ?_ (((F1.x (by decide)).tr (F2.x (by decide))).tr (F3.x (by decide))) ((C1.fr F2 (by decide)).fr F3 (by decide)) (((hX.fr F1 (by decide) (by decide) (by decide) (by decide)).fr F2 (by decide) (by decide) (by decide) (by decide)).fr F3 (by decide) (by decide) (by decide) (by decide)) (fun τ M => ?_)
      · unfold f_X9_gates
        rw [has_y N hC.2.1 hP hn, obind]
        dsimp only
        rw [if_neg (show ¬ (1 : Int32) = 0 by decide), if_neg q1, if_pos q2, xldL_n (by omega) (by omega), obind, (hC.2.1.2 n p hp).2, e1, obind, e2, obind, e3, obind, (G3 k hk).1, obind]
      · obtain ⟨σ1, f1, MK, G1⟩ := knows_ok N hN M.2.1 w2 hp M.2.2.1 w3
        have M1 := M.knwn G1 MK w5
        obtain ⟨σ2, m', kd, l, r, den', oz, f2, H2, G2⟩ := m_lays N hN M1.2.1 w2 M1.2.2.2.1 w4 hp
        refine ⟨σ2, ?_, (G1.y (by decide)).tr (G2.y (by decide)), M1.fr G2 (by decide) (by decide)⟩
        unfold f_X10_gates
        rw [isPlan_y N M.2.1 hP hn, obind]
        dsimp only
        rw [if_neg (show ¬ (1 : Int32) = 0 by decide), in_y N (lo := -1) (hi := 3) (by decide) (by decide) ⟨gLe q1, q2⟩, obind]
        dsimp only
        rw [if_neg (show ¬ (1 : Int32) = 0 by decide), f1, obind, f2, obind, m_gates N hN H2 hk, obind]
    · refine SStep.ref R (r := -1) ?_ ?_
      · unfold f_X9_gates
        rw [has_y N hC.2.1 hP hn, obind]
        dsimp only
        rw [if_neg (show ¬ (1 : Int32) = 0 by decide)]
        by_cases h3 : y < -1
        · rw [if_pos h3]
        · rw [if_neg h3, if_neg (nGe (h2.resolve_left h3))]
      · unfold f_X10_gates
        rw [isPlan_y N hM.2.1 hP hn, obind]
        dsimp only
        rw [if_neg (show ¬ (1 : Int32) = 0 by decide), in_n N (lo := -1) (hi := 3) (by decide) (by decide) h1, obind]; rfl
  · refine SStep.ref R (r := -1) ?_ ?_
    · unfold f_X9_gates
      rw [has_n N hC.2.1 hx, obind]; rfl
    · unfold f_X10_gates
      rw [isPlan_n N hM.2.1 hP hx, obind]; rfl
/-- an outcome, or none -/
theorem out_c (y : Int32) {w : Nat} (hw : w ≤ 12) : (¬ y < -1 ∧ ¬ nI w < y ∧ (y = -1 ∨ ∃ i, i ≤ w ∧ y = nI i)) ∨ (¬ ((-1 : Int32) ≤ y ∧ y ≤ nI w) ∧ (y < -1 ∨ nI w < y)) := by
  by_cases h1 : -1 ≤ y
  · by_cases h2 : y ≤ nI w
    · left
      refine ⟨nGt h1, nGt h2, ?_⟩
      rcases i32m1 h1 with rfl | ⟨n, hn, rfl⟩
      · exact Or.inl rfl
      · exact Or.inr ⟨n, (nLe hn (by omega)).mp h2, rfl⟩
    · exact Or.inr ⟨fun z => h2 z.2, Or.inr (gLt h2)⟩
  · exact Or.inr ⟨fun z => h1 z.1, Or.inl (gLt h1)⟩
theorem hasOut_ok (N : Nat) (hN : 2048 < N) {σ : Wd} {P : Pl} (C : CPl σ P) (W : WP P) {n : Nat} {p : List Nat × Blk} (hp : P[n]? = some p) (y : Int32) : f_X9_hasOutcome N (nI n) y σ = if y < -1 then some (0, σ) else if nI (wid p.2) < y then some (0, σ) else some (1, σ) := by
  have hn := (List.getElem?_eq_some_iff.mp hp).1
  have hP := W.1
  unfold f_X9_hasOutcome
  rw [has_y N C hP hn, obind]
  dsimp only
  rw [if_neg (show ¬ (1 : Int32) = 0 by decide), xldL_n (by omega) (by omega), obind, (C.2 n p hp).2, width_ok N (by omega) (W.at hp).2.1, obind]
theorem st_latest (N : Nat) (hN : 2048 < N) {σ : Wd} (R : SRel σ) (x y : Int32) : SStep (f_X9_latest N x y) (f_X10_latest N x y) σ := by
  obtain ⟨T, P, K, d, ar, sh, hW, hC, hX, hM⟩ := id R
  obtain ⟨w1, w2, w3, w4, w5⟩ := id hW
  have hP := w2.1
  rcases plc P hP x with ⟨n, p, rfl, hn, hp⟩ | hx
  · obtain ⟨-, Vp, hne⟩ := w2.at hp
    have hw := Vp.2.2
    have ho := hasOut_ok N hN hC.2.1 w2 hp y
    rcases out_c y hw with ⟨q1, q2, q3⟩ | ⟨h1, h2⟩
    · rw [if_neg q1, if_neg q2] at ho
      obtain ⟨τ1, e1, K1, F1⟩ := ask_ok N (by omega) hC.2.2.1 w3 Vp
      have C1 := hC.knwn F1 K1
      obtain ⟨τ2, m, den, e2, S2, F2⟩ := c_build N hN C1.2.1 w2 hp
      have C2 := C1.fr F2 (by decide)
      obtain ⟨τ3, e3, F3, G1, ⟨G2, -⟩, -⟩ := come_cls N (by omega) S2 Vp C2.2.2.2.1 w4
      have hr : ∃ v : Int32, f_X8_ofOutcome N y τ3 = some (v, τ3) ∧ ∀ (σ2 : Wd) (m' : Nat) (kd l r den' oz : Nat → Nat), LDp σ2 m' kd l r den' oz p.2 d ar → (if 0 ≤ y then ((xld σ2 60 13 y).bind fun v6 => (xld σ2 57 2048 v6).bind fun v7 => some (v7, σ2)) else ((f_X10_lastOut N σ2).bind fun p8 => some (p8.1, p8.2))) = some (v, σ2) := by
        rcases q3 with rfl | ⟨i, hi, rfl⟩
        · refine ⟨_, G2, fun σ2 m' kd l r den' oz H => ?_⟩
          rw [if_neg (show ¬ (0 : Int32) ≤ -1 by decide), (m_last N hN H).1, obind]
        · refine ⟨_, (G1 i hi).1, fun σ2 m' kd l r den' oz H => ?_⟩
          rw [if_pos (nI_pos' (by omega)), m_of N H.1.2.1 H.2.1 H.2.2.2.2.1 hi, ld_tm H (by omega)]
      obtain ⟨v, r1, r2⟩ := hr
      refine SStep.mk hM (⟨w1, w2, w3.ask Vp hne, w4, w5⟩ : WSt T P (askK K p.2) d ar sh) (r := v) (σ1 := τ3) ?_ (((F1.x (by decide)).tr (F2.x (by decide))).tr (F3.x (by decide))) (C2.fr F3 (by decide)) (((hX.fr F1 (by decide) (by decide) (by decide) (by decide)).fr F2 (by decide) (by decide) (by decide) (by decide)).fr F3 (by decide) (by decide) (by decide) (by decide)) (fun τ M => ?_)
      · unfold f_X9_latest
        rw [ho, obind]
        dsimp only
        rw [if_neg (show ¬ (1 : Int32) = 0 by decide), xldL_n (by omega) (by omega), obind, (hC.2.1.2 n p hp).2, e1, obind, e2, obind, e3, obind, r1, obind]
      · obtain ⟨σ1, f1, MK, G1⟩ := knows_ok N hN M.2.1 w2 hp M.2.2.1 w3
        have M1 := M.knwn G1 MK w5
        obtain ⟨σ2, m', kd, l, r, den', oz, f2, H2, G2⟩ := m_lays N hN M1.2.1 w2 M1.2.2.2.1 w4 hp
        refine ⟨σ2, ?_, (G1.y (by decide)).tr (G2.y (by decide)), M1.fr G2 (by decide) (by decide)⟩
        unfold f_X10_latest
        rw [isPlan_y N M.2.1 hP hn, obind]
        dsimp only
        rw [if_neg (show ¬ (1 : Int32) = 0 by decide), mwidth_ok N hN M.2.1 w2 hp, obind]
        dsimp only
        rw [in_y N (lo := -1) (hi := nI (wid p.2)) (by decide) rfl ⟨gLe q1, gLe q2⟩, obind]
        dsimp only
        rw [if_neg (show ¬ (1 : Int32) = 0 by decide), f1, obind, f2, obind]
        exact r2 σ2 m' kd l r den' oz H2
    · refine SStep.ref R (r := -1) ?_ ?_
      · unfold f_X9_latest
        by_cases h3 : y < -1
        · rw [ho, if_pos h3, obind]; rfl
        · rw [ho, if_neg h3, if_pos (h2.resolve_left h3), obind]; rfl
      · unfold f_X10_latest
        rw [isPlan_y N hM.2.1 hP hn, obind]
        dsimp only
        rw [if_neg (show ¬ (1 : Int32) = 0 by decide), mwidth_ok N hN hM.2.1 w2 hp, obind]
        dsimp only
        rw [in_n N (lo := -1) (hi := nI (wid p.2)) (by decide) rfl h1, obind]; rfl
  · refine SStep.ref R (r := -1) ?_ ?_
    · unfold f_X9_latest f_X9_hasOutcome
      rw [has_n N hC.2.1 hx, obind]; rfl
    · unfold f_X10_latest
      rw [isPlan_n N hM.2.1 hP hx, obind]; rfl
theorem st_deep (N : Nat) (hN : 2048 < N) {σ : Wd} (R : SRel σ) (x : Int32) : SStep (f_X9_deep N x) (f_X10_deep N x) σ := by
  obtain ⟨T, P, K, d, ar, sh, hW, hC, hX, hM⟩ := id R
  obtain ⟨w1, w2, w3, w4, w5⟩ := id hW
  have hP := w2.1
  rcases plc P hP x with ⟨n, p, rfl, hn, hp⟩ | hx
  · obtain ⟨-, Vp, hne⟩ := w2.at hp
    obtain ⟨τ1, e1, K1, F1⟩ := ask_ok N (by omega) hC.2.2.1 w3 Vp
    have C1 := hC.knwn F1 K1
    obtain ⟨τ2, m, den, e2, S2, F2⟩ := c_build N hN C1.2.1 w2 hp
    have C2 := C1.fr F2 (by decide)
    obtain ⟨τ3, e3, F3, -, -, -, ⟨τ4, e4, F4⟩, -⟩ := come_cls N (by omega) S2 Vp C2.2.2.2.1 w4
    refine SStep.mk hM (⟨w1, w2, w3.ask Vp hne, w4, w5⟩ : WSt T P (askK K p.2) d ar sh) (r := nI (aDeep p.2 d ar)) (σ1 := τ4) ?_ ((((F1.x (by decide)).tr (F2.x (by decide))).tr (F3.x (by decide))).tr (F4.x (by decide))) ((C2.fr F3 (by decide)).fr F4 (by decide)) ((((hX.fr F1 (by decide) (by decide) (by decide) (by decide)).fr F2 (by decide) (by decide) (by decide) (by decide)).fr F3 (by decide) (by decide) (by decide) (by decide)).fr F4 (by decide) (by decide) (by decide) (by decide)) (fun τ M => ?_)
    · unfold f_X9_deep
      rw [has_y N hC.2.1 hP hn, obind]
      dsimp only
      rw [if_neg (show ¬ (1 : Int32) = 0 by decide), xldL_n (by omega) (by omega), obind, (hC.2.1.2 n p hp).2, e1, obind, e2, obind, e3, obind, e4, obind]
    · obtain ⟨σ1, f1, MK, G1⟩ := knows_ok N hN M.2.1 w2 hp M.2.2.1 w3
      have M1 := M.knwn G1 MK w5
      obtain ⟨σ2, m', kd, l, r, den', oz, f2, H2, G2⟩ := m_lays N hN M1.2.1 w2 M1.2.2.2.1 w4 hp
      refine ⟨σ2, ?_, (G1.y (by decide)).tr (G2.y (by decide)), M1.fr G2 (by decide) (by decide)⟩
      unfold f_X10_deep
      rw [isPlan_y N M.2.1 hP hn, obind]
      dsimp only
      rw [if_neg (show ¬ (1 : Int32) = 0 by decide), f1, obind, f2, obind, (m_last N hN H2).1, obind]
      exact m_deep N hN H2
  · refine SStep.ref R (r := -1) ?_ ?_
    · unfold f_X9_deep
      rw [has_n N hC.2.1 hx, obind]; rfl
    · unfold f_X10_deep
      rw [isPlan_n N hM.2.1 hP hx, obind]; rfl
theorem st_hangs (N : Nat) (hN : 2048 < N) {σ : Wd} (R : SRel σ) (x : Int32) : SStep (f_X9_hangs N x) (f_X10_hangs N x) σ := by
  obtain ⟨T, P, K, d, ar, sh, hW, hC, hX, hM⟩ := id R
  obtain ⟨w1, w2, w3, w4, w5⟩ := id hW
  have hP := w2.1
  rcases plc P hP x with ⟨n, p, rfl, hn, hp⟩ | hx
  · obtain ⟨-, Vp, hne⟩ := w2.at hp
    obtain ⟨τ2, m, den, e2, S2, F2⟩ := c_build N hN hC.2.1 w2 hp
    have C2 := hC.fr F2 (by decide)
    obtain ⟨τ3, e3, F3, -, -, -, -, ⟨τ4, e4, F4, e5⟩⟩ := come_cls N (by omega) S2 Vp C2.2.2.2.1 w4
    refine SStep.mk hM hW (r := nI (aHang p.2 d ar)) (σ1 := τ4) ?_ (((F2.x (by decide)).tr (F3.x (by decide))).tr (F4.x (by decide))) ((C2.fr F3 (by decide)).fr F4 (by decide)) (((hX.fr F2 (by decide) (by decide) (by decide) (by decide)).fr F3 (by decide) (by decide) (by decide) (by decide)).fr F4 (by decide) (by decide) (by decide) (by decide)) (fun τ M => ?_)
    · unfold f_X9_hangs
      rw [has_y N hC.2.1 hP hn, obind]
      dsimp only
      rw [if_neg (show ¬ (1 : Int32) = 0 by decide), e2, obind, e3, obind, e4, obind, e5, obind]
    · obtain ⟨σ2, m', kd, l, r, den', oz, f2, H2, G2⟩ := m_lays N hN M.2.1 w2 M.2.2.2.1 w4 hp
      have M2 := M.fr G2 (by decide) (by decide)
      obtain ⟨σ3, f3, G3⟩ := m_hangs N hN H2 M2.2.2.2.1 w4
      refine ⟨σ3, ?_, (G2.y (by decide)).tr (G3.y (by decide)), M2.fr G3 (by decide) (by decide)⟩
      unfold f_X10_hangs
      rw [isPlan_y N M.2.1 hP hn, obind]
      dsimp only
      rw [if_neg (show ¬ (1 : Int32) = 0 by decide), f2, obind, (m_last N hN H2).1, obind]
      exact f3
  · refine SStep.ref R (r := -1) ?_ ?_
    · unfold f_X9_hangs
      rw [has_n N hC.2.1 hx, obind]; rfl
    · unfold f_X10_hangs
      rw [isPlan_n N hM.2.1 hP hx, obind]; rfl
theorem st_times (N : Nat) (hN : 2048 < N) {σ : Wd} (R : SRel σ) (x : Int32) : SStep (f_X9_times N x) (f_X10_times N x) σ := by
  obtain ⟨T, P, K, d, ar, sh, hW, hC, hX, hM⟩ := id R
  obtain ⟨w1, w2, w3, w4, w5⟩ := id hW
  have hP := w2.1
  rcases plc P hP x with ⟨n, p, rfl, hn, hp⟩ | hx
  · obtain ⟨-, Vp, hne⟩ := w2.at hp
    obtain ⟨τ2, m, den, e2, S2, F2⟩ := c_build N hN hC.2.1 w2 hp
    have C2 := hC.fr F2 (by decide)
    obtain ⟨τ3, e3, F3, -, -, e4, -⟩ := come_cls N (by omega) S2 Vp C2.2.2.2.1 w4
    refine SStep.mk hM hW (r := nI (aUnl p.2 d ar)) (σ1 := τ3) ?_ ((F2.x (by decide)).tr (F3.x (by decide))) (C2.fr F3 (by decide)) ((hX.fr F2 (by decide) (by decide) (by decide) (by decide)).fr F3 (by decide) (by decide) (by decide) (by decide)) (fun τ M => ?_)
    · unfold f_X9_times
      rw [has_y N hC.2.1 hP hn, obind]
      dsimp only
      rw [if_neg (show ¬ (1 : Int32) = 0 by decide), e2, obind, e3, obind, e4, obind]
    · obtain ⟨σ2, m', kd, l, r, den', oz, f2, H2, G2⟩ := m_lays N hN M.2.1 w2 M.2.2.2.1 w4 hp
      refine ⟨σ2, ?_, G2.y (by decide), M.fr G2 (by decide) (by decide)⟩
      unfold f_X10_times
      rw [isPlan_y N M.2.1 hP hn, obind]
      dsimp only
      rw [if_neg (show ¬ (1 : Int32) = 0 by decide), f2, obind]
      exact m_times N hN H2
  · refine SStep.ref R (r := -1) ?_ ?_
    · unfold f_X9_times
      rw [has_n N hC.2.1 hx, obind]; rfl
    · unfold f_X10_times
      rw [isPlan_n N hM.2.1 hP hx, obind]; rfl
/-- numbers of so many bits, or not -/
theorem num_c (a b c : Int32) {w : Nat} (hw : w ≤ 12) : (∃ x y z, x < 2 ^ w ∧ y < 2 ^ w ∧ z ≤ 1 ∧ a = nI x ∧ b = nI y ∧ c = nI z ∧ ∀ N σ, f_X9_areNumbers N a b c (nI w) σ = some (1, σ)) ∨ ((¬ ((0 : Int32) ≤ a ∧ a ≤ nI (2 ^ w - 1)) ∨ ¬ ((0 : Int32) ≤ b ∧ b ≤ nI (2 ^ w - 1)) ∨ ¬ ((0 : Int32) ≤ c ∧ c ≤ 1)) ∧ ∀ N σ, f_X9_areNumbers N a b c (nI w) σ = some (0, σ)) := by
  have hp : (2 : Nat) ^ w ≤ 2 ^ 12 := Nat.pow_le_pow_right (by decide) hw
  have hp1 : 0 < (2 : Nat) ^ w := Nat.pow_pos (by decide)
  have h12 : (2 : Nat) ^ 12 = 4096 := by decide
  have cls : ∀ N σ, f_X9_areNumbers N a b c (nI w) σ = if a < 0 then (some (0, σ)) else (if nI (2 ^ w) ≤ a then (some (0, σ)) else (if b < 0 then (some (0, σ)) else (if nI (2 ^ w) ≤ b then (some (0, σ)) else (if c < 0 then (some (0, σ)) else (if 1 < c then (some (0, σ)) else (some (1, σ))))))) := fun N σ => by
    unfold f_X9_areNumbers
    rw [sw_one hw]
  have one : ∀ x : Int32, (∃ n, n < 2 ^ w ∧ x = nI n ∧ ¬ x < 0 ∧ ¬ nI (2 ^ w) ≤ x) ∨ (¬ ((0 : Int32) ≤ x ∧ x ≤ nI (2 ^ w - 1)) ∧ (x < 0 ∨ nI (2 ^ w) ≤ x)) := fun x => by
    rcases rng x 0 (2 ^ w - 1) (by omega) (by omega) with ⟨n, -, hn, rfl⟩ | ⟨h1, h2⟩
    · exact Or.inl ⟨n, by omega, rfl, neg_lt n (by omega), fun z => by have := (nLe (by omega) (by omega)).mp z; omega⟩
    · refine Or.inr ⟨h1, h2.elim Or.inl (fun z => Or.inr ?_)⟩
      rw [fa_lt, nI_toInt (by omega)] at z
      rw [fa_le, nI_toInt (by omega)]
      omega
  rcases one a with ⟨x, x1, rfl, x2, x3⟩ | ⟨h1, h2⟩
  · rcases one b with ⟨y, y1, rfl, y2, y3⟩ | ⟨h1, h2⟩
    · rcases rng c 0 1 (by omega) (by omega) with ⟨z, -, hz, rfl⟩ | ⟨h1, h2⟩
      · left
        exact ⟨x, y, z, x1, y1, hz, rfl, rfl, rfl, fun N σ => by rw [cls, if_neg x2, if_neg x3, if_neg y2, if_neg y3, if_neg (show ¬ nI z < 0 from neg_lt z (by omega)), if_neg (show ¬ (1 : Int32) < nI z from fun q => by have := (nLt (a := 1) (by omega) (by omega)).mp q; omega)]⟩
      · right
        refine ⟨Or.inr (Or.inr h1), fun N σ => ?_⟩
        rw [cls, if_neg x2, if_neg x3, if_neg y2, if_neg y3]
        by_cases h3 : c < 0
        · rw [if_pos h3]
        · rw [if_neg h3, if_pos (show (1 : Int32) < c from h2.resolve_left h3)]
    · right
      refine ⟨Or.inr (Or.inl h1), fun N σ => ?_⟩
      rw [cls, if_neg x2, if_neg x3]
      by_cases h3 : b < 0
      · rw [if_pos h3]
      · rw [if_neg h3, if_pos (h2.resolve_left h3)]
  · right
    refine ⟨Or.inl h1, fun N σ => ?_⟩
    rw [cls]
    by_cases h3 : a < 0
    · rw [if_pos h3]
    · rw [if_neg h3, if_pos (h2.resolve_left h3)]
theorem pw_m1 {w : Nat} (hw : w ≤ 12) : (1 <<< (nI w &&& 31)) - 1 = nI (2 ^ w - 1) := by
  rw [sw_one hw]
  exact pk_sub (b := 1) (Nat.pow_pos (by decide))
theorem mnum_y (N : Nat) (hN : 2048 < N) {σ : Wd} {P : Pl} (M : MPl σ P) (W : WP P) {n : Nat} {p : List Nat × Blk} (hp : P[n]? = some p) {x y z : Nat} (hx : x < 2 ^ wid p.2) (hy : y < 2 ^ wid p.2) (hz : z ≤ 1) : f_X10_areNumbers N (nI n) (nI x) (nI y) (nI z) σ = some (1, σ) := by
  have hw := (W.at hp).2.1.2.2
  have hpw : (2 : Nat) ^ wid p.2 ≤ 2 ^ 12 := Nat.pow_le_pow_right (by decide) hw
  have h12 : (2 : Nat) ^ 12 = 4096 := by decide
  unfold f_X10_areNumbers
  rw [mwidth_ok N hN M W hp, obind]
  dsimp only
  rw [pw_m1 hw, in_y N (lo := 0) (hi := nI (2 ^ wid p.2 - 1)) (by decide) rfl ⟨nI_pos' (by omega), (nLe (by omega) (by omega)).mpr (by omega)⟩, obind]
  dsimp only
  rw [if_neg (show ¬ (1 : Int32) = 0 by decide), in_y N (lo := 0) (hi := nI (2 ^ wid p.2 - 1)) (by decide) rfl ⟨nI_pos' (by omega), (nLe (by omega) (by omega)).mpr (by omega)⟩, obind]
  dsimp only
  rw [if_neg (show ¬ (1 : Int32) = 0 by decide), in_y N (lo := 0) (hi := 1) (by decide) (by decide) ⟨nI_pos' (by omega), (nLe (b := 1) (by omega) (by omega)).mpr hz⟩, obind]
  dsimp only
  rw [if_neg (show ¬ (1 : Int32) = 0 by decide)]
theorem mnum_n (N : Nat) (hN : 2048 < N) {σ : Wd} {P : Pl} (M : MPl σ P) (W : WP P) {n : Nat} {p : List Nat × Blk} (hp : P[n]? = some p) {a b c : Int32} (h : ¬ ((0 : Int32) ≤ a ∧ a ≤ nI (2 ^ wid p.2 - 1)) ∨ ¬ ((0 : Int32) ≤ b ∧ b ≤ nI (2 ^ wid p.2 - 1)) ∨ ¬ ((0 : Int32) ≤ c ∧ c ≤ 1)) : f_X10_areNumbers N (nI n) a b c σ = some (0, σ) := by
  have hw := (W.at hp).2.1.2.2
  unfold f_X10_areNumbers
  rw [mwidth_ok N hN M W hp, obind]
  dsimp only
  rw [pw_m1 hw, in_ok N a 0 (nI (2 ^ wid p.2 - 1)) (by decide) rfl, obind]
  dsimp only
  by_cases h1 : (0 : Int32) ≤ a ∧ a ≤ nI (2 ^ wid p.2 - 1)
  · rw [if_pos h1, if_neg (show ¬ (1 : Int32) = 0 by decide), in_ok N b 0 (nI (2 ^ wid p.2 - 1)) (by decide) rfl, obind]
    dsimp only
    by_cases h2 : (0 : Int32) ≤ b ∧ b ≤ nI (2 ^ wid p.2 - 1)
    · rw [if_pos h2, if_neg (show ¬ (1 : Int32) = 0 by decide), in_n N (lo := 0) (hi := 1) (by decide) (by decide) ((h.resolve_left (fun z => z h1)).resolve_left (fun z => z h2)), obind]; rfl
    · rw [if_neg h2, if_pos rfl]
  · rw [if_neg h1, if_pos rfl]
end
