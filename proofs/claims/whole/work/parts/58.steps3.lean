section
/-! Steps: delay, arrival, arrives, alike, known. -/
def updN (f : Nat → Nat) (k v : Nat) : Nat → Nat := fun j => if j = k then v else f j
theorem dab.d {d ar : Nat → Nat} (h : dab d ar) {k v : Nat} (hv : v ≤ 9) : dab (updN d k v) ar := ⟨fun j hj => by
  unfold updN
  split
  · exact hv
  · exact h.1 j hj, h.2⟩
theorem dab.a {d ar : Nat → Nat} (h : dab d ar) {k v : Nat} (hv : v ≤ 99) : dab d (updN ar k v) := ⟨h.1, fun j hj => by
  unfold updN
  split
  · exact hv
  · exact h.2 j hj⟩
theorem CC.times {σ τ : Wd} {T : Txt} {P : Pl} {K : List Blk} {d ar d' ar' : Nat → Nat} {sh : Shv} (h : CC σ T P K d ar sh) (F : Fr [3, 6, 7, 30, 31] σ τ) (hK : τ.1 3 1 = 0) (hD : DA τ d' ar') : CC τ T P [] d' ar' sh := ⟨h.1.fr F (by decide) (by decide), h.2.1.fr F (by decide) (by decide) (by decide), CKn.nil hK, hD, fun k hk => (h.2.2.2.2 k hk).eq (fun b => F.i (by simp; omega) b) (fun b => F.l (by simp; omega) b) (fun b => F.l (by simp; omega) b)⟩
theorem CX.times {σ τ : Wd} {d ar d' ar' : Nat → Nat} (h : CX σ d ar) (F : Fr [3, 6, 7, 30, 31] σ τ) (h6 : τ.1 6 0 = 0) (h7 : τ.1 7 0 = 0) : CX τ d' ar' := ⟨h.1.fr F (by decide), Or.inl h6, Or.inl h7⟩
theorem changed_ok (N : Nat) (σ : Wd) : ∃ τ, f_X9_timesHaveChanged N σ = some τ ∧ Fr [3, 6, 7] σ τ ∧ τ.1 3 1 = 0 ∧ τ.1 6 0 = 0 ∧ τ.1 7 0 = 0 := by
  unfold f_X9_timesHaveChanged
  dsimp only
  exact ⟨_, rfl, (((Fr.rf _ σ).F (by decide)).F (by decide)).F (by decide), by rw [sF_ne (by decide), sF_ne (by decide), sF_eq], by rw [sF_ne (by decide), sF_eq], sF_eq⟩
theorem MI.times {σ τ : Wd} {T : Txt} {P : Pl} {K : List Blk} {d ar d' ar' : Nat → Nat} {sh : Shv} (h : MI σ T P K d ar sh) (F : FrM [51, 52] [14] σ τ) (hK : τ.1 41 14 = 0) (hD : MDA τ d' ar') (hw : ∀ k, k < 4 → WSh (sh k)) : MI τ T P [] d' ar' sh := ⟨h.1.fr F (by decide) (by decide), h.2.1.fr F (by decide) (by decide) (by decide) (by decide) (by decide), MKn.nil hK, hD, fun k hk4 => (h.2.2.2.2 k hk4).eq (F.i (by decide) (by decide) k) (F.i (by decide) (by decide) k) (fun j _ => F.i (by decide) (by decide) _) (fun j _ => F.l (by decide) _) (hw k hk4)⟩
theorem WK_nil : WK [] := ⟨Nat.zero_le _, fun b hb => absurd hb List.not_mem_nil, List.nodup_nil⟩
theorem st_delay (N : Nat) (hN : 2048 < N) {σ : Wd} (R : SRel σ) (x y : Int32) : SStep (f_X9_delay N x y) (f_X10_delay N x y) σ := by
  obtain ⟨T, P, K, d, ar, sh, hW, hC, hX, hM⟩ := id R
  obtain ⟨w1, w2, w3, w4, w5⟩ := id hW
  rcases rng x 0 3 (by omega) (by omega) with ⟨k, -, hk, rfl⟩ | ⟨h1, h2⟩
  · have qk : (0 : Int32) ≤ nI k ∧ nI k ≤ 3 := ⟨nI_pos' (by omega), (nLe (b := 3) (by omega) (by omega)).mpr hk⟩
    rcases rng y 0 9 (by omega) (by omega) with ⟨v, -, hv, rfl⟩ | ⟨h1, h2⟩
    · obtain ⟨τ1, e1, F1, z1, z2, z3⟩ := changed_ok N (sF σ 30 k (nI v))
      have F : Fr [3, 6, 7, 30, 31] σ τ1 := ((Fr.rf _ σ).F (by decide)).tr (F1.mo (by decide))
      have D1 : DA τ1 (updN d k v) ar := ⟨fun j hj => by
        rw [F1.i (by decide), sF_1, if_pos rfl]
        unfold updN
        by_cases hjk : j = k
        · rw [if_pos hjk, if_pos hjk]
        · rw [if_neg hjk, if_neg hjk]; exact hC.2.2.2.1.1 j hj, fun i hi => by rw [F1.i (by decide), sF_ne (by decide)]; exact hC.2.2.2.1.2 i hi⟩
      refine SStep.mk hM (⟨w1, w2, WK_nil, w4.d hv, w5⟩ : WSt T P [] (updN d k v) ar sh) (r := nI (d k)) (σ1 := τ1) ?_ (F.x (by decide)) (hC.times F z1 D1) (hX.times F z2 z3) (fun τ M => ?_)
      · unfold f_X9_delay
        rw [if_neg (nGt qk.1), if_neg (nGt qk.2), if_neg (show ¬ nI v < 0 from neg_lt v (by omega)), if_pos (show nI v ≤ 9 from (nLe (b := 9) (by omega) (by omega)).mpr hv), xld_n (by omega) (by omega), obind, hC.2.2.2.1.1 k (by omega), xst_n (by omega) (by omega), obind, e1, obind]
      · have F2 : FrM [51, 52] [14] τ (sF (sF τ 51 k (nI v)) 41 14 0) := ((FrM.rf _ _ τ).F (by decide) (by decide)).D (by decide)
        refine ⟨_, ?_, F2.y (by decide), M.times F2 sF_eq ⟨fun j hj => ?_, fun i hi => ?_⟩ w5⟩
        · unfold f_X10_delay
          rw [in_y N (lo := 0) (hi := 3) (by decide) (by decide) qk, obind]
          dsimp only
          rw [if_neg (show ¬ (1 : Int32) = 0 by decide), in_y N (lo := 0) (hi := 9) (by decide) (by decide) ⟨nI_pos' (by omega), (nLe (b := 9) (by omega) (by omega)).mpr hv⟩, obind]
          dsimp only
          rw [if_neg (show ¬ (1 : Int32) = 0 by decide), xld_n (by omega) (by omega), obind, M.2.2.2.1.1 k (by omega), xst_n (by omega) (by omega), obind]
        · rw [sF_ne (by decide), sF_1, if_pos rfl]
          unfold updN
          by_cases hjk : j = k
          · rw [if_pos hjk, if_pos hjk]
          · rw [if_neg hjk, if_neg hjk]; exact M.2.2.2.1.1 j hj
        · rw [sF_ne (by decide), sF_ne (by decide)]; exact M.2.2.2.1.2 i hi
    · refine SStep.ref R (r := -1) ?_ ?_
      · unfold f_X9_delay
        rw [if_neg (nGt qk.1), if_neg (nGt qk.2)]
        by_cases h3 : y < 0
        · rw [if_pos h3]
        · rw [if_neg h3, if_neg (show ¬ y ≤ 9 from nGe (h2.resolve_left h3))]
      · unfold f_X10_delay
        rw [in_y N (lo := 0) (hi := 3) (by decide) (by decide) qk, obind]
        dsimp only
        rw [if_neg (show ¬ (1 : Int32) = 0 by decide), in_n N (lo := 0) (hi := 9) (by decide) (by decide) h1, obind]; rfl
  · refine SStep.ref R (r := -1) ?_ ?_
    · unfold f_X9_delay
      by_cases h3 : x < 0
      · rw [if_pos h3]
      · rw [if_neg h3, if_pos (show (3 : Int32) < x from h2.resolve_left h3)]
    · unfold f_X10_delay
      rw [in_n N (lo := 0) (hi := 3) (by decide) (by decide) h1, obind]; rfl
theorem side_c (N : Nat) (a b : Int32) : (∃ i, i < 25 ∧ (∀ σ, f_X9_isInput N a b σ = some (1, σ)) ∧ (a * 12) + b = nI i ∧ ∀ σ, f_X10_sideAt N a b σ = some (nI i, σ)) ∨ ((∀ σ, f_X9_isInput N a b σ = some (0, σ)) ∧ ∀ σ, f_X10_sideAt N a b σ = some (-1, σ)) := by
  rcases rng a 0 1 (by omega) (by omega) with ⟨s, -, hs, rfl⟩ | ⟨h1, h2⟩
  · have qa : (0 : Int32) ≤ nI s ∧ nI s ≤ 1 := ⟨nI_pos' (by omega), (nLe (b := 1) (by omega) (by omega)).mpr hs⟩
    have n2 : ¬ nI s = 2 := neN (b := 2) (by omega) (by omega) (by omega)
    have l2 : ¬ (2 : Int32) ≤ nI s := fun z => by have := (nLe (a := 2) (by omega) (by omega)).mp z; omega
    rcases rng b 0 11 (by omega) (by omega) with ⟨t, -, ht, rfl⟩ | ⟨h1, h2⟩
    · left
      refine ⟨12 * s + t, by omega, fun σ => ?_, ?_, fun σ => ?_⟩
      · unfold f_X9_isInput
        rw [if_neg n2, if_neg (nGt qa.1), if_neg l2, if_neg (show ¬ nI t < 0 from neg_lt t (by omega)), if_neg (show ¬ (12 : Int32) ≤ nI t from fun z => by have := (nLe (a := 12) (by omega) (by omega)).mp z; omega)]
      · rw [show nI s * 12 = nI (s * 12) from pk_mul s 12, nI_add, Nat.mul_comm]
      · unfold f_X10_sideAt
        rw [in_y N (lo := 0) (hi := 1) (by decide) (by decide) qa, obind]
        dsimp only
        rw [if_neg (show ¬ (1 : Int32) = 0 by decide), in_y N (lo := 0) (hi := 11) (by decide) (by decide) ⟨nI_pos' (by omega), (nLe (b := 11) (by omega) (by omega)).mpr ht⟩, obind]
        dsimp only
        rw [if_neg (show ¬ (1 : Int32) = 0 by decide), show (12 : Int32) * nI s = nI (12 * s) from nMulL 12 s, nI_add]
    · right
      refine ⟨fun σ => ?_, fun σ => ?_⟩
      · unfold f_X9_isInput
        rw [if_neg n2, if_neg (nGt qa.1), if_neg l2]
        by_cases h3 : b < 0
        · rw [if_pos h3]
        · rw [if_neg h3, if_pos]
          have h4 := h2.resolve_left h3
          rw [fa_lt, nI_toInt (by omega)] at h4
          rw [fa_le, show (12 : Int32).toInt = 12 by decide]; omega
      · unfold f_X10_sideAt
        rw [in_y N (lo := 0) (hi := 1) (by decide) (by decide) qa, obind]
        dsimp only
        rw [if_neg (show ¬ (1 : Int32) = 0 by decide), in_n N (lo := 0) (hi := 11) (by decide) (by decide) h1, obind]
        dsimp only
        rw [if_pos rfl]
        unfold f_X10_sideAt_J31
        rw [if_neg n2]
  · by_cases ha : a = 2
    · subst ha
      by_cases hb : b = 0
      · subst hb
        left
        exact ⟨24, by omega, fun σ => rfl, by decide, fun σ => by
          unfold f_X10_sideAt
          rw [in_n N (lo := 0) (hi := 1) (by decide) (by decide) h1, obind]
          rfl⟩
      · right
        refine ⟨fun σ => ?_, fun σ => ?_⟩
        · unfold f_X9_isInput
          rw [if_pos rfl, if_neg hb]
        · unfold f_X10_sideAt
          rw [in_n N (lo := 0) (hi := 1) (by decide) (by decide) h1, obind]
          dsimp only
          rw [if_pos rfl]
          unfold f_X10_sideAt_J31
          rw [if_pos rfl, if_neg hb]
    · right
      refine ⟨fun σ => ?_, fun σ => ?_⟩
      · unfold f_X9_isInput
        rw [if_neg ha]
        by_cases h3 : a < 0
        · rw [if_pos h3]
        · rw [if_neg h3, if_pos]
          have h4 := h2.resolve_left h3
          rw [fa_lt, nI_toInt (by omega)] at h4
          rw [fa_le, show (2 : Int32).toInt = 2 by decide]; omega
      · unfold f_X10_sideAt
        rw [in_n N (lo := 0) (hi := 1) (by decide) (by decide) h1, obind]
        dsimp only
        rw [if_pos rfl]
        unfold f_X10_sideAt_J31
        rw [if_neg ha]
theorem st_arrival (N : Nat) (hN : 2048 < N) {σ : Wd} (R : SRel σ) (x y z : Int32) : SStep (f_X9_arrival N x y z) (f_X10_arrival N x y z) σ := by
  obtain ⟨T, P, K, d, ar, sh, hW, hC, hX, hM⟩ := id R
  obtain ⟨w1, w2, w3, w4, w5⟩ := id hW
  rcases side_c N x y with ⟨i, hi, s1, s2, s3⟩ | ⟨s1, s2⟩
  · rcases rng z 0 99 (by omega) (by omega) with ⟨v, -, hv, rfl⟩ | ⟨h1, h2⟩
    · obtain ⟨τ1, e1, F1, z1, z2, z3⟩ := changed_ok N (sF σ 31 i (nI v))
      have F : Fr [3, 6, 7, 30, 31] σ τ1 := ((Fr.rf _ σ).F (by decide)).tr (F1.mo (by decide))
      have D1 : DA τ1 d (updN ar i v) := ⟨fun j hj => by rw [F1.i (by decide), sF_ne (by decide)]; exact hC.2.2.2.1.1 j hj, fun j hj => by
        rw [F1.i (by decide), sF_1, if_pos rfl]
        unfold updN
        by_cases hjk : j = i
        · rw [if_pos hjk, if_pos hjk]
        · rw [if_neg hjk, if_neg hjk]; exact hC.2.2.2.1.2 j hj⟩
      refine SStep.mk hM (⟨w1, w2, WK_nil, w4.a hv, w5⟩ : WSt T P [] d (updN ar i v) sh) (r := nI (ar i)) (σ1 := τ1) ?_ (F.x (by decide)) (hC.times F z1 D1) (hX.times F z2 z3) (fun τ M => ?_)
      · unfold f_X9_arrival
        rw [s1, obind]
        dsimp only
        rw [if_neg (show ¬ (1 : Int32) = 0 by decide), if_neg (show ¬ nI v < 0 from neg_lt v (by omega)), if_pos (show nI v ≤ 99 from (nLe (b := 99) (by omega) (by omega)).mpr hv), s2, xld_n hi (by omega), obind, hC.2.2.2.1.2 i hi, xst_n hi (by omega), obind, e1, obind]
      · have F2 : FrM [51, 52] [14] τ (sF (sF τ 52 i (nI v)) 41 14 0) := ((FrM.rf _ _ τ).F (by decide) (by decide)).D (by decide)
        refine ⟨_, ?_, F2.y (by decide), M.times F2 sF_eq ⟨fun j hj => ?_, fun j hj => ?_⟩ w5⟩
        · unfold f_X10_arrival
          rw [s3, obind]
          dsimp only
          rw [if_neg (show ¬ nI i < 0 from neg_lt i (by omega)), in_y N (lo := 0) (hi := 99) (by decide) (by decide) ⟨nI_pos' (by omega), (nLe (b := 99) (by omega) (by omega)).mpr hv⟩, obind]
          dsimp only
          rw [if_neg (show ¬ (1 : Int32) = 0 by decide), xld_n hi (by omega), obind, M.2.2.2.1.2 i hi, xst_n hi (by omega), obind]
        · rw [sF_ne (by decide), sF_ne (by decide)]; exact M.2.2.2.1.1 j hj
        · rw [sF_ne (by decide), sF_1, if_pos rfl]
          unfold updN
          by_cases hjk : j = i
          · rw [if_pos hjk, if_pos hjk]
          · rw [if_neg hjk, if_neg hjk]; exact M.2.2.2.1.2 j hj
    · refine SStep.ref R (r := -1) ?_ ?_
      · unfold f_X9_arrival
        rw [s1, obind]
        dsimp only
        rw [if_neg (show ¬ (1 : Int32) = 0 by decide)]
        by_cases h3 : z < 0
        · rw [if_pos h3]
        · rw [if_neg h3, if_neg (show ¬ z ≤ 99 from nGe (h2.resolve_left h3))]
      · unfold f_X10_arrival
        rw [s3, obind]
        dsimp only
        rw [if_neg (show ¬ nI i < 0 from neg_lt i (by omega)), in_n N (lo := 0) (hi := 99) (by decide) (by decide) h1, obind]; rfl
  · refine SStep.ref R (r := -1) ?_ ?_
    · unfold f_X9_arrival
      rw [s1, obind]; rfl
    · unfold f_X10_arrival
      rw [s2, obind]; rfl
theorem st_arrives (N : Nat) {σ : Wd} (R : SRel σ) (x y : Int32) : SStep (f_X9_arrives N x y) (f_X10_arrives N x y) σ := by
  obtain ⟨T, P, K, d, ar, sh, hW, hC, hX, hM⟩ := id R
  rcases side_c N x y with ⟨i, hi, s1, s2, s3⟩ | ⟨s1, s2⟩
  · refine SStep.ref R (r := nI (ar i)) ?_ ?_
    · unfold f_X9_arrives
      rw [s1, obind]
      dsimp only
      rw [if_neg (show ¬ (1 : Int32) = 0 by decide), s2, xld_n hi (by omega), obind, hC.2.2.2.1.2 i hi]
    · unfold f_X10_arrives
      rw [s3, obind]
      dsimp only
      rw [if_pos (nI_pos' (by omega)), xld_n hi (by omega), obind, hM.2.2.2.1.2 i hi]
  · refine SStep.ref R (r := -1) ?_ ?_
    · unfold f_X9_arrives
      rw [s1, obind]; rfl
    · unfold f_X10_arrives
      rw [s2, obind]; rfl
theorem st_alike (N : Nat) (hN : 2048 < N) {σ : Wd} (R : SRel σ) (x y : Int32) : SStep (f_X9_alike N x y) (f_X10_alike N x y) σ := by
  obtain ⟨T, P, K, d, ar, sh, hW, hC, hX, hM⟩ := id R
  obtain ⟨w1, w2, w3, w4, w5⟩ := id hW
  have hP := w2.1
  rcases plc P hP x with ⟨n, p, rfl, hn, hp⟩ | hx
  · rcases plc P hP y with ⟨m, q, rfl, hm, hq⟩ | hy
    · have Vp := (w2.at hp).2.1
      have Vq := (w2.at hq).2.1
      obtain ⟨-, -, m3, m4⟩ := hM.2.1.2 n p hp
      obtain ⟨-, -, k3, k4⟩ := hM.2.1.2 m q hq
      have b1 := Vp.1
      have b2 := Vq.1
      have b3 := Vp.2.2
      have b4 := Vq.2.2
      have hal := alikeB_ok N hN Vp Vq m4 k4 (L0 := 96) (L3 := 96) (by omega) (by omega) (by decide) (by decide)
      refine SStep.ref R (r := if p.2 = q.2 then 2 else if wid p.2 = wid q.2 then 1 else 0) ?_ ?_
      · unfold f_X9_alike
        rw [has_y N hC.2.1 hP hn, obind]
        dsimp only
        rw [if_neg (show ¬ (1 : Int32) = 0 by decide), has_y N hC.2.1 hP hm, obind]
        dsimp only
        rw [if_neg (show ¬ (1 : Int32) = 0 by decide), xldL_n (by omega) (by omega), obind, xldL_n (by omega) (by omega), obind, (hC.2.1.2 n p hp).2, (hC.2.1.2 m q hq).2]
        by_cases he : p.2 = q.2
        · rw [if_pos ((lgB Vp Vq).mpr he), if_pos he]
        · rw [if_neg (fun z => he ((lgB Vp Vq).mp z)), if_neg he, width_ok N (by omega) Vp, obind]
          dsimp only
          rw [width_ok N (by omega) Vq, obind]
          dsimp only
          by_cases hw : wid p.2 = wid q.2
          · rw [if_pos (by rw [hw]), if_pos hw]
          · rw [if_neg (neN (by omega) (by omega) hw), if_neg hw]
      · unfold f_X10_alike
        rw [isPlan_y N hM.2.1 hP hn, obind]
        dsimp only
        rw [if_neg (show ¬ (1 : Int32) = 0 by decide), isPlan_y N hM.2.1 hP hm, obind]
        dsimp only
        rw [if_neg (show ¬ (1 : Int32) = 0 by decide), xld_n (by omega) (by omega), obind, xld_n (by omega) (by omega), obind, m3, k3, show (8 : Int32) * nI n = nI (8 * n) from nMulL 8 n, show (8 : Int32) * nI m = nI (8 * m) from nMulL 8 m, hal, obind]
        dsimp only
        by_cases he : p.2 = q.2
        · rw [if_pos he, if_neg (show ¬ (1 : Int32) = 0 by decide), if_pos he]
        · rw [if_neg he, if_pos rfl, if_neg he, mwidth_ok N hN hM.2.1 w2 hp, obind]
          dsimp only
          rw [mwidth_ok N hN hM.2.1 w2 hq, obind]
          dsimp only
          by_cases hw : wid p.2 = wid q.2
          · rw [if_pos (by rw [hw]), if_pos hw]
          · rw [if_neg (neN (by omega) (by omega) hw), if_neg hw]
    · refine SStep.ref R (r := -1) ?_ ?_
      · unfold f_X9_alike
        rw [has_y N hC.2.1 hP hn, obind]
        dsimp only
        rw [if_neg (show ¬ (1 : Int32) = 0 by decide), has_n N hC.2.1 hy, obind]; rfl
      · unfold f_X10_alike
        rw [isPlan_y N hM.2.1 hP hn, obind]
        dsimp only
        rw [if_neg (show ¬ (1 : Int32) = 0 by decide), isPlan_n N hM.2.1 hP hy, obind]; rfl
  · refine SStep.ref R (r := -1) ?_ ?_
    · unfold f_X9_alike
      rw [has_n N hC.2.1 hx, obind]; rfl
    · unfold f_X10_alike
      rw [isPlan_n N hM.2.1 hP hx, obind]; rfl
theorem st_known (N : Nat) (hN : 2048 < N) {σ : Wd} (R : SRel σ) (x : Int32) : SStep (f_X9_known N x) (f_X10_known N x) σ := by
  obtain ⟨T, P, K, d, ar, sh, hW, hC, hX, hM⟩ := id R
  obtain ⟨w1, w2, w3, w4, w5⟩ := id hW
  have hP := w2.1
  have hK := w3.1
  rcases plc P hP x with ⟨n, p, rfl, hn, hp⟩ | hx
  · have Vp := (w2.at hp).2.1
    have b1 := Vp.1
    obtain ⟨-, -, m3, m4⟩ := hM.2.1.2 n p hp
    refine SStep.ref R (r := if kix K p.2 < K.length then 1 else 0) ?_ ?_
    · unfold f_X9_known
      rw [has_y N hC.2.1 hP hn, obind]
      dsimp only
      rw [if_neg (show ¬ (1 : Int32) = 0 by decide), xldL_n (by omega) (by omega), obind, (hC.2.1.2 n p hp).2, holds_ok N (by omega) hC.2.2.1 w3 Vp, obind]
      dsimp only
      by_cases hc : kix K p.2 < K.length
      · rw [if_pos hc, if_neg (show ¬ (1 : Int32) = 0 by decide)]
      · rw [if_neg hc, if_pos rfl]
    · unfold f_X10_known
      rw [isPlan_y N hM.2.1 hP hn, obind]
      dsimp only
      rw [if_neg (show ¬ (1 : Int32) = 0 by decide), xld_n (by omega) (by omega), obind, m3, show (8 : Int32) * nI n = nI (8 * n) from nMulL 8 n, placeKnown_ok N hN hM.2.2.1 w3 Vp m4 (by omega) (by decide), obind]
      dsimp only
      by_cases hc : kix K p.2 < K.length
      · rw [if_pos hc, if_neg (show ¬ nI (kix K p.2) < 0 from neg_lt _ (by omega)), if_pos hc]
      · rw [if_neg hc, if_pos (show (-2 : Int32) < 0 by decide), if_neg hc]
  · refine SStep.ref R (r := -1) ?_ ?_
    · unfold f_X9_known
      rw [has_n N hC.2.1 hx, obind]; rfl
    · unfold f_X10_known
      rw [isPlan_n N hM.2.1 hP hx, obind]; rfl
end
