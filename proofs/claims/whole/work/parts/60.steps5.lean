section
/-! Steps: adds, settles, slowest, intime, shared. -/
theorem CX.set {σ τ : Wd} {d ar : Nat → Nat} (h : CX σ d ar) (F : Fr [32, 33] σ τ) (hV : V33 τ) : CX τ d ar := ⟨hV, h.2.1.fr F (by decide) (by decide), h.2.2.fr F (by decide)⟩
theorem pw_lt {w x : Nat} (hw : w ≤ 12) (hx : x < 2 ^ w) : x < 2147483648 := by
  have hp : (2 : Nat) ^ w ≤ 2 ^ 12 := Nat.pow_le_pow_right (by decide) hw
  have h12 : (2 : Nat) ^ 12 = 4096 := by decide
  omega
theorem st_adds (N : Nat) (hN : 2048 < N) {σ : Wd} (R : SRel σ) (x a b c : Int32) : SStep (f_X9_adds N x a b c) (f_X10_adds N x a b c) σ := by
  obtain ⟨T, P, K, d, ar, sh, hW, hC, hX, hM⟩ := id R
  obtain ⟨w1, w2, w3, w4, w5⟩ := id hW
  have hP := w2.1
  rcases plc P hP x with ⟨n, p, rfl, hn, hp⟩ | hx
  · obtain ⟨-, Vp, hne⟩ := w2.at hp
    have hw := Vp.2.2
    have eX : ∀ v, (∀ N σ, f_X9_areNumbers N a b c (nI (wid p.2)) σ = some (v, σ)) → f_X9_adds N (nI n) a b c σ = if v = 0 then some (-1, σ) else ((f_X9_buildNetOf N (nI n) σ).bind fun σ5 => (f_X8_settle N a b c σ5).bind fun σ6 => (f_X8_outcomeBits N σ6).bind fun p7 => some (p7.1, p7.2)) := fun v hv => by
      unfold f_X9_adds
      rw [has_y N hC.2.1 hP hn, obind]
      dsimp only
      rw [if_neg (show ¬ (1 : Int32) = 0 by decide), xldL_n (by omega) (by omega), obind, (hC.2.1.2 n p hp).2, width_ok N (by omega) Vp, obind]
      dsimp only
      rw [hv, obind]
    rcases num_c a b c hw with ⟨u, v, z, h1, h2, h3, rfl, rfl, rfl, h4⟩ | ⟨h1, h2⟩
    · obtain ⟨τ2, m, den, e2, S2, F2⟩ := c_build N hN hC.2.1 w2 hp
      have C2 := hC.fr F2 (by decide)
      have X2 := hX.fr F2 (by decide) (by decide) (by decide) (by decide)
      obtain ⟨τ3, e3, F3, V3, -, -, e4⟩ := settle_cls N (by omega) S2 Vp C2.2.2.2.1 w4 X2.1 (pw_lt hw h1) (pw_lt hw h2) h3
      refine SStep.mk hM hW (r := nI (aAdds p.2 d ar u v z)) (σ1 := τ3) ?_ ((F2.x (by decide)).tr (F3.x (by decide))) (C2.fr F3 (by decide)) (X2.set F3 V3) (fun τ M => ?_)
      · rw [eX 1 h4, if_neg (show ¬ (1 : Int32) = 0 by decide), e2, obind, e3, obind, e4, obind]
      · obtain ⟨σ2, m', kd, l, r, den', oz, f2, H2, G2⟩ := m_lays N hN M.2.1 w2 M.2.2.2.1 w4 hp
        obtain ⟨σ3, f3, G3, R3⟩ := meval_ok N hN H2.1 w4 (d := d) (ar := ar) (pw_lt hw h1) (pw_lt hw h2) h3
        refine ⟨σ3, ?_, (G2.y (by decide)).tr (G3.y (by decide)), (M.fr G2 (by decide) (by decide)).fr G3 (by decide) (by decide)⟩
        unfold f_X10_adds
        rw [isPlan_y N M.2.1 hP hn, obind]
        dsimp only
        rw [if_neg (show ¬ (1 : Int32) = 0 by decide), mnum_y N hN M.2.1 w2 hp h1 h2 h3, obind]
        dsimp only
        rw [if_neg (show ¬ (1 : Int32) = 0 by decide), f2, obind, f3, obind]
        exact m_adds N hN (H2.1.fr G3 (by decide) (by decide) (by decide) (by decide)) (H2.2.1.fr G3 (by decide) (by decide)) H2.2.2.1 w4 h3 R3
    · refine SStep.ref R (r := -1) ?_ ?_
      · rw [eX 0 h2, if_pos rfl]
      · unfold f_X10_adds
        rw [isPlan_y N hM.2.1 hP hn, obind]
        dsimp only
        rw [if_neg (show ¬ (1 : Int32) = 0 by decide), mnum_n N hN hM.2.1 w2 hp h1, obind]; rfl
  · refine SStep.ref R (r := -1) ?_ ?_
    · unfold f_X9_adds
      rw [has_n N hC.2.1 hx, obind]; rfl
    · unfold f_X10_adds
      rw [isPlan_n N hM.2.1 hP hx, obind]; rfl
theorem st_settles (N : Nat) (hN : 2048 < N) {σ : Wd} (R : SRel σ) (x y a b c : Int32) : SStep (f_X9_settles N x y a b c) (f_X10_settles N x y a b c) σ := by
  obtain ⟨T, P, K, d, ar, sh, hW, hC, hX, hM⟩ := id R
  obtain ⟨w1, w2, w3, w4, w5⟩ := id hW
  have hP := w2.1
  rcases plc P hP x with ⟨n, p, rfl, hn, hp⟩ | hx
  · obtain ⟨-, Vp, hne⟩ := w2.at hp
    have hw := Vp.2.2
    have ho := hasOut_ok N hN hC.2.1 w2 hp y
    rcases out_c y hw with ⟨q1, q2, q3⟩ | ⟨h1, h2⟩
    · rw [if_neg q1, if_neg q2] at ho
      have eX : ∀ v, (∀ N σ, f_X9_areNumbers N a b c (nI (wid p.2)) σ = some (v, σ)) → f_X9_settles N (nI n) y a b c σ = if v = 0 then some (-1, σ) else ((f_X9_buildNetOf N (nI n) σ).bind fun σ5 => (f_X8_settle N a b c σ5).bind fun σ6 => (f_X8_ofOutcome N y σ6).bind fun p7 => some (p7.1, p7.2)) := fun v hv => by
        unfold f_X9_settles
        rw [ho, obind]
        dsimp only
        rw [if_neg (show ¬ (1 : Int32) = 0 by decide), xldL_n (by omega) (by omega), obind, (hC.2.1.2 n p hp).2, width_ok N (by omega) Vp, obind]
        dsimp only
        rw [hv, obind]
      rcases num_c a b c hw with ⟨u, v, z, h1, h2, h3, rfl, rfl, rfl, h4⟩ | ⟨h1, h2⟩
      · obtain ⟨τ2, m, den, e2, S2, F2⟩ := c_build N hN hC.2.1 w2 hp
        have C2 := hC.fr F2 (by decide)
        have X2 := hX.fr F2 (by decide) (by decide) (by decide) (by decide)
        obtain ⟨τ3, e3, F3, V3, G1, ⟨G2, -⟩, -⟩ := settle_cls N (by omega) S2 Vp C2.2.2.2.1 w4 X2.1 (pw_lt hw h1) (pw_lt hw h2) h3
        have hr : ∃ r : Int32, f_X8_ofOutcome N y τ3 = some (r, τ3) ∧ ∀ (σ2 : Wd) (m' : Nat) (kd l r' den' oz : Nat → Nat), MNet σ2 m' kd l r' den' → MOG σ2 m' (wid p.2) oz → (∀ i, i < wid p.2 + 1 → den' (oz i) = outT (nets p.2) i) → RW σ2 57 m' (fun k => (STl d ar (vaL u v z) (den' k)).2) → (if 0 ≤ y then ((xld σ2 60 13 y).bind fun v6 => (xld σ2 57 2048 v6).bind fun v7 => some (v7, σ2)) else ((f_X10_lastOut N σ2).bind fun p8 => some (p8.1, p8.2))) = some (r, σ2) := by
          rcases q3 with rfl | ⟨i, hi, rfl⟩
          · refine ⟨_, G2, fun σ2 m' kd l r' den' oz H1 H2 H3 H4 => ?_⟩
            rw [if_neg (show ¬ (0 : Int32) ≤ -1 by decide), (m_setl N hN H1 H2 H3 H4).1.1, obind]
          · refine ⟨_, G1 i hi, fun σ2 m' kd l r' den' oz H1 H2 H3 H4 => ?_⟩
            rw [if_pos (nI_pos' (by omega)), (m_setl N hN H1 H2 H3 H4).2 i hi]
        obtain ⟨r, r1, r2⟩ := hr
        refine SStep.mk hM hW (r := r) (σ1 := τ3) ?_ ((F2.x (by decide)).tr (F3.x (by decide))) (C2.fr F3 (by decide)) (X2.set F3 V3) (fun τ M => ?_)
        · rw [eX 1 h4, if_neg (show ¬ (1 : Int32) = 0 by decide), e2, obind, e3, obind, r1, obind]
        · obtain ⟨σ2, m', kd, l, r', den', oz, f2, H2, G2⟩ := m_lays N hN M.2.1 w2 M.2.2.2.1 w4 hp
          have M2 := M.fr G2 (by decide) (by decide)
          obtain ⟨σ3, f3, G3, R3⟩ := meval_ok N hN H2.1 w4 (d := d) (ar := ar) (pw_lt hw h1) (pw_lt hw h2) h3
          have N3 := H2.1.fr G3 (by decide) (by decide) (by decide) (by decide)
          have M3 := M2.fr G3 (by decide) (by decide)
          obtain ⟨σ4, f4, G4, R4, -⟩ := msettle_ok N hN N3 M3.2.2.2.1 w4 (fun t _ => vaL_le (a := u) (b := v) h3 t) R3 ((ld_leaf H2).frm G3 (by decide) (by decide))
          refine ⟨σ4, ?_, ((G2.y (by decide)).tr (G3.y (by decide))).tr (G4.y (by decide)), M3.fr G4 (by decide) (by decide)⟩
          unfold f_X10_settles
          rw [isPlan_y N M.2.1 hP hn, obind]
          dsimp only
          rw [if_neg (show ¬ (1 : Int32) = 0 by decide), mwidth_ok N hN M.2.1 w2 hp, obind]
          dsimp only
          rw [in_y N (lo := -1) (hi := nI (wid p.2)) (by decide) rfl ⟨gLe q1, gLe q2⟩, obind]
          dsimp only
          rw [if_neg (show ¬ (1 : Int32) = 0 by decide), mnum_y N hN M.2.1 w2 hp h1 h2 h3, obind]
          dsimp only
          rw [if_neg (show ¬ (1 : Int32) = 0 by decide), f2, obind, f3, obind, f4, obind]
          exact r2 σ4 m' kd l r' den' oz (N3.fr G4 (by decide) (by decide) (by decide) (by decide)) ((H2.2.1.fr G3 (by decide) (by decide)).fr G4 (by decide) (by decide)) H2.2.2.1 R4
      · refine SStep.ref R (r := -1) ?_ ?_
        · rw [eX 0 h2, if_pos rfl]
        · unfold f_X10_settles
          rw [isPlan_y N hM.2.1 hP hn, obind]
          dsimp only
          rw [if_neg (show ¬ (1 : Int32) = 0 by decide), mwidth_ok N hN hM.2.1 w2 hp, obind]
          dsimp only
          rw [in_y N (lo := -1) (hi := nI (wid p.2)) (by decide) rfl ⟨gLe q1, gLe q2⟩, obind]
          dsimp only
          rw [if_neg (show ¬ (1 : Int32) = 0 by decide), mnum_n N hN hM.2.1 w2 hp h1, obind]; rfl
    · refine SStep.ref R (r := -1) ?_ ?_
      · unfold f_X9_settles
        by_cases h3 : y < -1
        · rw [ho, if_pos h3, obind]; rfl
        · rw [ho, if_neg h3, if_pos (h2.resolve_left h3), obind]; rfl
      · unfold f_X10_settles
        rw [isPlan_y N hM.2.1 hP hn, obind]
        dsimp only
        rw [if_neg (show ¬ (1 : Int32) = 0 by decide), mwidth_ok N hN hM.2.1 w2 hp, obind]
        dsimp only
        rw [in_n N (lo := -1) (hi := nI (wid p.2)) (by decide) rfl h1, obind]; rfl
  · refine SStep.ref R (r := -1) ?_ ?_
    · unfold f_X9_settles f_X9_hasOutcome
      rw [has_n N hC.2.1 hx, obind]; rfl
    · unfold f_X10_settles
      rw [isPlan_n N hM.2.1 hP hx, obind]; rfl
theorem m_go (N : Nat) (hN : 2048 < N) {σ : Wd} {P : Pl} (M : MPl σ P) (W : WP P) {d ar : Nat → Nat} (hD : MDA σ d ar) (hb : dab d ar) {n : Nat} {p : List Nat × Blk} (hp : P[n]? = some p) (hw : wid p.2 ≤ 4) {t : Nat} (ht : t < 1000000) :
    ∃ τ, f_X10_goesThrough N (nI n) (nI t) σ = some (nI (cle (swAt p.2 d ar) t (2 * 2 ^ (2 * wid p.2))), τ) ∧ τ.1 41 32 = nI (aWorst p.2 d ar 0) ∧ τ.1 41 29 = nI (aWorst p.2 d ar 1) ∧ τ.1 41 30 = nI (aWorst p.2 d ar 2) ∧ τ.1 41 31 = nI (aWorst p.2 d ar 3) ∧ FrM [53, 54, 55, 56, 57, 58, 59, 60, 61, 62] [27, 28, 29, 30, 31, 32] σ τ := by
  obtain ⟨σ2, m', kd, l, r, den', oz, f2, H2, G2⟩ := m_lays N hN M W hD hb hp
  have M2 := M.fr G2 (by decide) (by decide) (by decide) (by decide) (by decide)
  have G3 : FrM [57, 58] swpF σ2 (sF σ2 41 32 (-1)) := (FrM.rf _ _ _).D (by decide)
  unfold f_X10_goesThrough
  rw [f2, obind, mwidth_ok N hN M2 W hp, obind]
  dsimp only
  rw [sw_one (by omega)]
  obtain ⟨τ, e, q1, q2, q3, q4, F⟩ := m_sweep N hN (H2.1.fr G3 (by decide) (by decide) (by decide) (by decide)) (H2.2.1.fr G3 (by decide) (by decide)) H2.2.2.1 ((hD.fr G2 (by decide) (by decide)).fr G3 (by decide) (by decide)) hb ((ld_leaf H2).frm ((FrM.rf [58] swpF σ2).D (by decide)) (by decide) (by decide)) hw ht sF_eq
  exact ⟨τ, e, q1, q2, q3, q4, (G2.mo (by decide) (by decide)).tr ((G3.tr F).mo (by decide) (by decide))⟩
theorem CX.swp {σ τ : Wd} {d ar : Nat → Nat} (h : CX σ d ar) (F : Fr swC σ τ) (hV : V33 τ) (h6 : τ.1 6 0 = 1) {bs : Blk} (hS : SWD τ bs d ar) : CX τ d ar := ⟨hV, Or.inr ⟨h6, bs, hS⟩, h.2.2.fr F (by decide)⟩
theorem st_slowest (N : Nat) (hN : 2048 < N) {σ : Wd} (R : SRel σ) (x y : Int32) : SStep (f_X9_slowest N x y) (f_X10_slowest N x y) σ := by
  obtain ⟨T, P, K, d, ar, sh, hW, hC, hX, hM⟩ := id R
  obtain ⟨w1, w2, w3, w4, w5⟩ := id hW
  have hP := w2.1
  rcases plc P hP x with ⟨n, p, rfl, hn, hp⟩ | hx
  · obtain ⟨-, Vp, hne⟩ := w2.at hp
    have hw := Vp.2.2
    rcases rng y 0 3 (by omega) (by omega) with ⟨k, -, hk, rfl⟩ | ⟨h1, h2⟩
    · have qk : (0 : Int32) ≤ nI k ∧ nI k ≤ 3 := ⟨nI_pos' (by omega), (nLe (b := 3) (by omega) (by omega)).mpr hk⟩
      have eX : f_X9_slowest N (nI n) (nI k) σ = if nI (wid p.2) ≤ 4 then ((f_X6_over N (lN (bcode p.2)) σ).bind fun σ4 => (f_X6_worst N (nI k) σ4).bind fun p5 => some (p5.1, p5.2)) else some (-7, σ) := by
        unfold f_X9_slowest
        rw [has_y N hC.2.1 hP hn, obind]
        dsimp only
        rw [if_neg (show ¬ (1 : Int32) = 0 by decide), if_neg (nGt qk.1), if_pos qk.2, xldL_n (by omega) (by omega), obind, (hC.2.1.2 n p hp).2, width_ok N (by omega) Vp, obind]
      have eM : ∀ τ, MI τ T P K d ar sh → f_X10_slowest N (nI n) (nI k) τ = if nI (wid p.2) ≤ 4 then ((f_X10_goesThrough N (nI n) 0 τ).bind fun p4 => if nI k = 0 then (some (p4.2.1 41 32, p4.2)) else (if nI k = 1 then (some (p4.2.1 41 29, p4.2)) else (if nI k = 2 then (some (p4.2.1 41 30, p4.2)) else (some (p4.2.1 41 31, p4.2))))) else some (-7, τ) := fun τ M => by
        unfold f_X10_slowest
        rw [isPlan_y N M.2.1 hP hn, obind]
        dsimp only
        rw [if_neg (show ¬ (1 : Int32) = 0 by decide), in_y N (lo := 0) (hi := 3) (by decide) (by decide) qk, obind]
        dsimp only
        rw [if_neg (show ¬ (1 : Int32) = 0 by decide), mwidth_ok N hN M.2.1 w2 hp, obind]
      by_cases h4 : wid p.2 ≤ 4
      · have q4 : nI (wid p.2) ≤ 4 := (nLe (b := 4) (by omega) (by omega)).mpr h4
        obtain ⟨τ1, e1, F1, V1, z1, S1⟩ := over_ok N (by omega) Vp h4 hC.2.2.2.1 w4 hX.1 hX.2.1
        refine SStep.mk hM hW (r := nI (aWorst p.2 d ar k)) (σ1 := τ1) ?_ (F1.x (by decide)) (hC.fr F1 (by decide)) (hX.swp F1 V1 z1 S1) (fun τ M => ?_)
        · rw [eX, if_pos q4, e1, obind, worst_ok N (by omega) S1 (by omega), obind]
        · obtain ⟨σ2, f2, g1, g2, g3, g4, G2⟩ := m_go N hN M.2.1 w2 M.2.2.2.1 w4 hp h4 (t := 0) (by omega)
          have f2' : f_X10_goesThrough N (nI n) 0 τ = _ := f2
          refine ⟨σ2, ?_, G2.y (by decide), M.fr G2 (by decide) (by decide)⟩
          rw [eM τ M, if_pos q4, f2', obind]
          dsimp only
          have hk4 : k = 0 ∨ k = 1 ∨ k = 2 ∨ k = 3 := by omega
          rcases hk4 with rfl | rfl | rfl | rfl
          · rw [if_pos (show nI 0 = 0 from rfl), g1]
          · rw [if_neg (show ¬ nI 1 = 0 by decide), if_pos (show nI 1 = 1 from rfl), g2]
          · rw [if_neg (show ¬ nI 2 = 0 by decide), if_neg (show ¬ nI 2 = 1 by decide), if_pos (show nI 2 = 2 from rfl), g3]
          · rw [if_neg (show ¬ nI 3 = 0 by decide), if_neg (show ¬ nI 3 = 1 by decide), if_neg (show ¬ nI 3 = 2 by decide), g4]
      · have q4 : ¬ nI (wid p.2) ≤ 4 := fun z => h4 ((nLe (b := 4) (by omega) (by omega)).mp z)
        exact SStep.ref R (r := -7) (by rw [eX, if_neg q4]) (by rw [eM σ hM, if_neg q4])
    · refine SStep.ref R (r := -1) ?_ ?_
      · unfold f_X9_slowest
        rw [has_y N hC.2.1 hP hn, obind]
        dsimp only
        rw [if_neg (show ¬ (1 : Int32) = 0 by decide)]
        by_cases h3 : y < 0
        · rw [if_pos h3]
        · rw [if_neg h3, if_neg (show ¬ y ≤ 3 from nGe (h2.resolve_left h3))]
      · unfold f_X10_slowest
        rw [isPlan_y N hM.2.1 hP hn, obind]
        dsimp only
        rw [if_neg (show ¬ (1 : Int32) = 0 by decide), in_n N (lo := 0) (hi := 3) (by decide) (by decide) h1, obind]; rfl
  · refine SStep.ref R (r := -1) ?_ ?_
    · unfold f_X9_slowest
      rw [has_n N hC.2.1 hx, obind]; rfl
    · unfold f_X10_slowest
      rw [isPlan_n N hM.2.1 hP hx, obind]; rfl
theorem st_intime (N : Nat) (hN : 2048 < N) {σ : Wd} (R : SRel σ) (x y : Int32) : SStep (f_X9_intime N x y) (f_X10_intime N x y) σ := by
  obtain ⟨T, P, K, d, ar, sh, hW, hC, hX, hM⟩ := id R
  obtain ⟨w1, w2, w3, w4, w5⟩ := id hW
  have hP := w2.1
  rcases plc P hP x with ⟨n, p, rfl, hn, hp⟩ | hx
  · obtain ⟨-, Vp, hne⟩ := w2.at hp
    have hw := Vp.2.2
    rcases rng y 0 999 (by omega) (by omega) with ⟨k, -, hk, rfl⟩ | ⟨h1, h2⟩
    · have qk : (0 : Int32) ≤ nI k ∧ nI k ≤ 999 := ⟨nI_pos' (by omega), (nLe (b := 999) (by omega) (by omega)).mpr hk⟩
      have eX : f_X9_intime N (nI n) (nI k) σ = if nI (wid p.2) ≤ 4 then ((f_X6_over N (lN (bcode p.2)) σ).bind fun σ4 => (f_X6_settledBy N (nI k) σ4).bind fun p5 => some (p5.1, p5.2)) else some (-7, σ) := by
        unfold f_X9_intime
        rw [has_y N hC.2.1 hP hn, obind]
        dsimp only
        rw [if_neg (show ¬ (1 : Int32) = 0 by decide), if_neg (nGt qk.1), if_pos qk.2, xldL_n (by omega) (by omega), obind, (hC.2.1.2 n p hp).2, width_ok N (by omega) Vp, obind]
      have eM : ∀ τ, MI τ T P K d ar sh → f_X10_intime N (nI n) (nI k) τ = if nI (wid p.2) ≤ 4 then ((f_X10_goesThrough N (nI n) (nI k) τ).bind fun p4 => some (p4.1, p4.2)) else some (-7, τ) := fun τ M => by
        unfold f_X10_intime
        rw [isPlan_y N M.2.1 hP hn, obind]
        dsimp only
        rw [if_neg (show ¬ (1 : Int32) = 0 by decide), in_y N (lo := 0) (hi := 999) (by decide) (by decide) qk, obind]
        dsimp only
        rw [if_neg (show ¬ (1 : Int32) = 0 by decide), mwidth_ok N hN M.2.1 w2 hp, obind]
      by_cases h4 : wid p.2 ≤ 4
      · have q4 : nI (wid p.2) ≤ 4 := (nLe (b := 4) (by omega) (by omega)).mpr h4
        obtain ⟨τ1, e1, F1, V1, z1, S1⟩ := over_ok N (by omega) Vp h4 hC.2.2.2.1 w4 hX.1 hX.2.1
        refine SStep.mk hM hW (r := nI (cle (swAt p.2 d ar) k (2 * 2 ^ (2 * wid p.2)))) (σ1 := τ1) ?_ (F1.x (by decide)) (hC.fr F1 (by decide)) (hX.swp F1 V1 z1 S1) (fun τ M => ?_)
        · rw [eX, if_pos q4, e1, obind, settledBy_ok N (by omega) S1 (by omega), obind]
        · obtain ⟨σ2, f2, -, -, -, -, G2⟩ := m_go N hN M.2.1 w2 M.2.2.2.1 w4 hp h4 (t := k) (by omega)
          refine ⟨σ2, ?_, G2.y (by decide), M.fr G2 (by decide) (by decide)⟩
          rw [eM τ M, if_pos q4, f2, obind]
      · have q4 : ¬ nI (wid p.2) ≤ 4 := fun z => h4 ((nLe (b := 4) (by omega) (by omega)).mp z)
        exact SStep.ref R (r := -7) (by rw [eX, if_neg q4]) (by rw [eM σ hM, if_neg q4])
    · refine SStep.ref R (r := -1) ?_ ?_
      · unfold f_X9_intime
        rw [has_y N hC.2.1 hP hn, obind]
        dsimp only
        rw [if_neg (show ¬ (1 : Int32) = 0 by decide)]
        by_cases h3 : y < 0
        · rw [if_pos h3]
        · rw [if_neg h3, if_neg (show ¬ y ≤ 999 from nGe (h2.resolve_left h3))]
      · unfold f_X10_intime
        rw [isPlan_y N hM.2.1 hP hn, obind]
        dsimp only
        rw [if_neg (show ¬ (1 : Int32) = 0 by decide), in_n N (lo := 0) (hi := 999) (by decide) (by decide) h1, obind]; rfl
  · refine SStep.ref R (r := -1) ?_ ?_
    · unfold f_X9_intime
      rw [has_n N hC.2.1 hx, obind]; rfl
    · unfold f_X10_intime
      rw [isPlan_n N hM.2.1 hP hx, obind]; rfl
theorem st_shared (N : Nat) (hN : 2048 < N) {σ : Wd} (R : SRel σ) (x y : Int32) : SStep (f_X9_shared N x y) (f_X10_shared N x y) σ := by
  obtain ⟨T, P, K, d, ar, sh, hW, hC, hX, hM⟩ := id R
  obtain ⟨w1, w2, w3, w4, w5⟩ := id hW
  have hP := w2.1
  rcases plc P hP x with ⟨n, p, rfl, hn, hp⟩ | hx
  · rcases plc P hP y with ⟨m, q, rfl, hm, hq⟩ | hy
    · have Vp := (w2.at hp).2.1
      have Vq := (w2.at hq).2.1
      have b2 := Vq.1
      obtain ⟨τ1, e1, F1⟩ := both_ok N (by omega) Vp Vq σ
      refine SStep.mk hM hW (r := nI (gboth (OUT p.2) (OUT q.2))) (σ1 := τ1) ?_ (F1.x (by decide)) (hC.fr F1 (by decide)) (hX.fr F1 (by decide) (by decide) (by decide) (by decide)) (fun τ M => ?_)
      · unfold f_X9_shared
        rw [has_y N hC.2.1 hP hn, obind]
        dsimp only
        rw [if_neg (show ¬ (1 : Int32) = 0 by decide), has_y N hC.2.1 hP hm, obind]
        dsimp only
        rw [if_neg (show ¬ (1 : Int32) = 0 by decide), xldL_n (by omega) (by omega), obind, xldL_n (by omega) (by omega), obind, (hC.2.1.2 n p hp).2, (hC.2.1.2 m q hq).2, e1, obind]
      · obtain ⟨σ2, m', kd, l, r, den', oz, f2, H2, G2⟩ := m_lays N hN M.2.1 w2 M.2.2.2.1 w4 hp
        have M2 := M.fr G2 (by decide) (by decide)
        obtain ⟨-, -, k3, k4⟩ := M2.2.1.2 m q hq
        obtain ⟨σ3, f3, G3⟩ := m_both N hN H2 Vp Vq k4 (by decide) (by decide) (L := 96) (by omega) (by decide)
        refine ⟨σ3, ?_, (G2.y (by decide)).tr (G3.y (by decide)), M2.fr G3 (by decide) (by decide)⟩
        unfold f_X10_shared
        rw [isPlan_y N M.2.1 hP hn, obind]
        dsimp only
        rw [if_neg (show ¬ (1 : Int32) = 0 by decide), isPlan_y N M.2.1 hP hm, obind]
        dsimp only
        rw [if_neg (show ¬ (1 : Int32) = 0 by decide), f2, obind, xld_n (by omega) (by omega), obind, k3, show (8 : Int32) * nI m = nI (8 * m) from nMulL 8 m]
        exact f3
    · refine SStep.ref R (r := -1) ?_ ?_
      · unfold f_X9_shared
        rw [has_y N hC.2.1 hP hn, obind]
        dsimp only
        rw [if_neg (show ¬ (1 : Int32) = 0 by decide), has_n N hC.2.1 hy, obind]; rfl
      · unfold f_X10_shared
        rw [isPlan_y N hM.2.1 hP hn, obind]
        dsimp only
        rw [if_neg (show ¬ (1 : Int32) = 0 by decide), isPlan_n N hM.2.1 hP hy, obind]; rfl
  · refine SStep.ref R (r := -1) ?_ ?_
    · unfold f_X9_shared
      rw [has_n N hC.2.1 hx, obind]; rfl
    · unfold f_X10_shared
      rw [isPlan_n N hM.2.1 hP hx, obind]; rfl
end
