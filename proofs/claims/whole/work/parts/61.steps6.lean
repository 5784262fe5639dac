section
/-! Steps: choose, chosen. -/
def bcE (x : Int32) : Int32 := match f_J6_bitCount_0f7a4 0 x (fun _ _ => 0, fun _ _ => 0) with
  | some p => p.1
  | none => 0
theorem bc_eq (N : Nat) (x : Int32) (σ : Wd) : f_J6_bitCount_0f7a4 N x σ = some (bcE x, σ) := rfl
def pop4 (k : Nat) : Nat := k % 2 + k / 2 % 2 + k / 4 % 2 + k / 8 % 2
set_option maxRecDepth 100000 in
theorem bc4 : ∀ k, k < 16 → bcE (nI k) = nI (pop4 k) := by decide +kernel
theorem mp4 : ∀ k, k < 16 → ((((nI k &&& (1 : Int32)) + ((nI k >>> (1 &&& 31)) &&& (1 : Int32))) + ((nI k >>> (2 &&& 31)) &&& (1 : Int32))) + ((nI k >>> (3 &&& 31)) &&& (1 : Int32))) = nI (pop4 k) := by decide +kernel
theorem pop4_b : ∀ k, k < 16 → pop4 k ≤ 4 ∧ (1 ≤ k → 1 ≤ pop4 k) := by decide +kernel
theorem want_c (w ks t : Int32) : (∃ W k t', 1 ≤ W ∧ W ≤ 6 ∧ k < 16 ∧ t' ≤ 999 ∧ w = nI W ∧ ks = nI k ∧ t = nI t' ∧ ∀ N σ, f_X9_canChoose N w ks t σ = some (1, σ) ∧ f_X10_isWanted N w ks t σ = some (1, σ)) ∨ (∀ N σ, f_X9_canChoose N w ks t σ = some (0, σ) ∧ f_X10_isWanted N w ks t σ = some (0, σ)) := by
  rcases rng w 1 6 (by omega) (by omega) with ⟨W, hW1, hW2, rfl⟩ | ⟨h1, h2⟩
  · have c1 : ¬ nI W < 1 := fun z => by have := (nLt (b := 1) (by omega) (by omega)).mp z; omega
    have c2 : ¬ (6 : Int32) < nI W := fun z => by have := (nLt (a := 6) (by omega) (by omega)).mp z; omega
    have m1 : (1 : Int32) ≤ nI W ∧ nI W ≤ 6 := ⟨gLe c1, gLe c2⟩
    rcases rng ks 1 15 (by omega) (by omega) with ⟨k, hk1, hk2, rfl⟩ | ⟨h1, h2⟩
    · have c3 : ¬ nI k < 1 := fun z => by have := (nLt (b := 1) (by omega) (by omega)).mp z; omega
      have c4 : ¬ (15 : Int32) < nI k := fun z => by have := (nLt (a := 15) (by omega) (by omega)).mp z; omega
      have m2 : (1 : Int32) ≤ nI k ∧ nI k ≤ 15 := ⟨gLe c3, gLe c4⟩
      obtain ⟨p1, p2⟩ := pop4_b k (by omega)
      have p2 := p2 hk1
      have eX : ∀ N σ, f_X9_canChoose N (nI W) (nI k) t σ = if 2 < nI (pop4 k) then some (0, σ) else if t < 0 then some (0, σ) else if 999 < t then some (0, σ) else some (1, σ) := fun N σ => by
        unfold f_X9_canChoose
        rw [if_neg c1, if_neg c2, if_neg c3, if_neg c4, bc_eq, obind, bc4 k (by omega)]
      have eM : ∀ N σ, f_X10_isWanted N (nI W) (nI k) t σ = ((f_X10_in N (nI (pop4 k)).toInt64 1 2 σ).bind fun p3 => if p3.1 = 0 then (some (0, p3.2)) else ((f_X10_in N t.toInt64 0 999 p3.2).bind fun p4 => if p4.1 = 0 then (some (0, p4.2)) else (some (1, p4.2)))) := fun N σ => by
        unfold f_X10_isWanted
        rw [in_y N (lo := 1) (hi := 6) (by decide) (by decide) m1, obind]
        dsimp only
        rw [if_neg (show ¬ (1 : Int32) = 0 by decide), in_y N (lo := 1) (hi := 15) (by decide) (by decide) m2, obind]
        dsimp only
        rw [if_neg (show ¬ (1 : Int32) = 0 by decide), mp4 k (by omega)]
      by_cases h2 : pop4 k ≤ 2
      · have c5 : ¬ (2 : Int32) < nI (pop4 k) := fun z => by have := (nLt (a := 2) (by omega) (by omega)).mp z; omega
        have m3 : (1 : Int32) ≤ nI (pop4 k) ∧ nI (pop4 k) ≤ 2 := ⟨(nLe (a := 1) (by omega) (by omega)).mpr p2, gLe c5⟩
        rcases rng t 0 999 (by omega) (by omega) with ⟨t', -, ht, rfl⟩ | ⟨h3, h4⟩
        · left
          refine ⟨W, k, t', hW1, hW2, by omega, ht, rfl, rfl, rfl, fun N σ => ⟨?_, ?_⟩⟩
          · rw [eX, if_neg c5, if_neg (show ¬ nI t' < 0 from neg_lt t' (by omega)), if_neg (show ¬ (999 : Int32) < nI t' from fun z => by have := (nLt (a := 999) (by omega) (by omega)).mp z; omega)]
          · rw [eM, in_y N (lo := 1) (hi := 2) (by decide) (by decide) m3, obind]
            dsimp only
            rw [if_neg (show ¬ (1 : Int32) = 0 by decide), in_y N (lo := 0) (hi := 999) (by decide) (by decide) ⟨nI_pos' (by omega), (nLe (b := 999) (by omega) (by omega)).mpr ht⟩, obind]
            rfl
        · right
          refine fun N σ => ⟨?_, ?_⟩
          · rw [eX, if_neg c5]
            by_cases h5 : t < 0
            · rw [if_pos h5]
            · rw [if_neg h5, if_pos (show (999 : Int32) < t from h4.resolve_left h5)]
          · rw [eM, in_y N (lo := 1) (hi := 2) (by decide) (by decide) m3, obind]
            dsimp only
            rw [if_neg (show ¬ (1 : Int32) = 0 by decide), in_n N (lo := 0) (hi := 999) (by decide) (by decide) h3, obind]
            rfl
      · right
        have c5 : (2 : Int32) < nI (pop4 k) := (nLt (a := 2) (by omega) (by omega)).mpr (by omega)
        refine fun N σ => ⟨by rw [eX, if_pos c5], ?_⟩
        rw [eM, in_n N (lo := 1) (hi := 2) (by decide) (by decide) (fun z => nGe c5 z.2), obind]
        rfl
    · right
      refine fun N σ => ⟨?_, ?_⟩
      · unfold f_X9_canChoose
        rw [if_neg c1, if_neg c2]
        by_cases h3 : ks < 1
        · rw [if_pos h3]
        · rw [if_neg h3, if_pos (show (15 : Int32) < ks from h2.resolve_left h3)]
      · unfold f_X10_isWanted
        rw [in_y N (lo := 1) (hi := 6) (by decide) (by decide) m1, obind]
        dsimp only
        rw [if_neg (show ¬ (1 : Int32) = 0 by decide), in_n N (lo := 1) (hi := 15) (by decide) (by decide) h1, obind]
        rfl
  · right
    refine fun N σ => ⟨?_, ?_⟩
    · unfold f_X9_canChoose
      by_cases h3 : w < 1
      · rw [if_pos h3]
      · rw [if_neg h3, if_pos (show (6 : Int32) < w from h2.resolve_left h3)]
    · unfold f_X10_isWanted
      rw [in_n N (lo := 1) (hi := 6) (by decide) (by decide) h1, obind]
      rfl
theorem CX.gro {σ τ : Wd} {d ar : Nat → Nat} (h : CX σ d ar) (F : Fr growC σ τ) (hS : SRI τ d ar) : CX τ d ar := ⟨h.1.fr F (by decide), h.2.1.fr F (by decide) (by decide), hS⟩
theorem st_choose (N : Nat) (hN : 2048 < N) {σ : Wd} (R : SRel σ) (w ks t y : Int32) : SStep (f_X9_choose N w ks t y) (f_X10_choose N w ks t y) σ := by
  obtain ⟨T, P, K, d, ar, sh, hW, hC, hX, hM⟩ := id R
  obtain ⟨w1, w2, w3, w4, w5⟩ := id hW
  rcases want_c w ks t with ⟨W, k, t', a1, a2, a3, a4, rfl, rfl, rfl, hg⟩ | hbad
  · have hy : ((y = 0 ∨ y = 1 ∨ y = 2 ∨ ∃ m, m < 2147483638 ∧ y = nI (m + 10)) ∧ (∀ σ, f_X9_choose N (nI W) (nI k) (nI t') y σ = f_X9_choose_J29 N (nI W) (nI k) (nI t') y σ) ∧ ∀ σ, f_X10_choose N (nI W) (nI k) (nI t') y σ = f_X10_choose_J31 N (nI W) (nI k) (nI t') y σ) ∨ ((∀ σ, f_X9_choose N (nI W) (nI k) (nI t') y σ = some (-1, σ)) ∧ ∀ σ, f_X10_choose N (nI W) (nI k) (nI t') y σ = some (-1, σ)) := by
      have eX : ∀ σ, f_X9_choose N (nI W) (nI k) (nI t') y σ = if y < 0 then some (-1, σ) else if y ≤ 2 then f_X9_choose_J29 N (nI W) (nI k) (nI t') y σ else if 10 ≤ y then f_X9_choose_J29 N (nI W) (nI k) (nI t') y σ else some (-1, σ) := fun σ => by
        unfold f_X9_choose
        rw [(hg N σ).1, obind]
        rfl
      have eM : ∀ σ, f_X10_choose N (nI W) (nI k) (nI t') y σ = ((f_X10_in N y.toInt64 0 2 σ).bind fun p2 => if p2.1 = 0 then (if 10 ≤ y then (f_X10_choose_J31 N (nI W) (nI k) (nI t') y p2.2) else (some ((-1), p2.2))) else (f_X10_choose_J31 N (nI W) (nI k) (nI t') y p2.2)) := fun σ => by
        unfold f_X10_choose
        rw [(hg N σ).2, obind]
        rfl
      rcases rng y 0 2 (by omega) (by omega) with ⟨m, -, hm, rfl⟩ | ⟨h1, h2⟩
      · left
        have q1 : ¬ nI m < 0 := neg_lt m (by omega)
        have q2 : nI m ≤ 2 := (nLe (b := 2) (by omega) (by omega)).mpr hm
        refine ⟨?_, fun σ => by rw [eX, if_neg q1, if_pos q2], fun σ => by rw [eM, in_y N (lo := 0) (hi := 2) (by decide) (by decide) ⟨gLe q1, q2⟩, obind]; rfl⟩
        have : m = 0 ∨ m = 1 ∨ m = 2 := by omega
        rcases this with rfl | rfl | rfl
        · exact Or.inl rfl
        · exact Or.inr (Or.inl rfl)
        · exact Or.inr (Or.inr (Or.inl rfl))
      · by_cases h10 : (10 : Int32) ≤ y
        · left
          have q1 : ¬ y < 0 := fun z => by
            rw [fa_lt, show (0 : Int32).toInt = 0 by decide] at z
            rw [fa_le, show (10 : Int32).toInt = 10 by decide] at h10
            omega
          have q2 : ¬ y ≤ 2 := fun z => by
            rw [fa_le, show (2 : Int32).toInt = 2 by decide] at z
            rw [fa_le, show (10 : Int32).toInt = 10 by decide] at h10
            omega
          obtain ⟨m, hm, rfl⟩ := nI_of q1
          have hm2 : m < 2147483648 := hm
          have hm10 := (nLe (a := 10) (by omega) hm2).mp h10
          refine ⟨Or.inr (Or.inr (Or.inr ⟨m - 10, by omega, by rw [show m - 10 + 10 = m by omega]⟩)), fun σ => by rw [eX, if_neg q1, if_neg q2, if_pos h10], fun σ => by rw [eM, in_n N (lo := 0) (hi := 2) (by decide) (by decide) h1, obind]; dsimp only; rw [if_pos rfl, if_pos h10]⟩
        · right
          refine ⟨fun σ => ?_, fun σ => by rw [eM, in_n N (lo := 0) (hi := 2) (by decide) (by decide) h1, obind]; dsimp only; rw [if_pos rfl, if_neg h10]⟩
          rw [eX]
          by_cases h3 : y < 0
          · rw [if_pos h3]
          · rw [if_neg h3, if_neg (show ¬ y ≤ 2 from nGe (h2.resolve_left h3)), if_neg h10]
    rcases hy with ⟨hy, e1, e2⟩ | ⟨e1, e2⟩
    · obtain ⟨τ1, f1, F1, S1, I1⟩ := run_ok N (by omega) hC.2.2.2.1 w4 hX.2.2 (W := W) (ks := k) (t := t') (by omega) a3 (by omega)
      obtain ⟨s1, s2, s3, s4, s5, s6, s7⟩ := S1
      have hs1 := aChoose_1 W k t' a2 d ar
      obtain ⟨σa, -, MSa, -⟩ := mchooses_ok N hN w4 a1 a2 a3 (t := t') (by omega) hM.2.2.2.1
      have hiff := MSa.2.2.1
      clear MSa
      have hr : ∃ r : Int32, (if y = 2 then (some (τ1.1 7 1, τ1)) else (if (τ1.1 7 1) = 0 then (some ((-2), τ1)) else (if y = 0 then (some (τ1.1 7 2, τ1)) else (if y = 1 then (some (τ1.1 7 3, τ1)) else ((f_X0_figureOf N (τ1.2 7 4) (y - 10) τ1).bind fun p3 => some (p3.1, p3.2)))))) = some (r, τ1) ∧ ∀ σ3, MSR σ3 (aChoose W k t' d ar) → (if y = 2 then (some (σ3.1 41 38, σ3)) else (if (σ3.1 41 35) = 0 then (some ((-2), σ3)) else (if (y - 10) < (σ3.1 41 35) then (if y = 0 then (some (σ3.1 41 36, σ3)) else (if y = 1 then (some (σ3.1 41 37, σ3)) else ((xld σ3 64 8 (y - 10)).bind fun v4 => some (v4, σ3)))) else (some ((-2), σ3))))) = some (r, σ3) := by
        generalize aChoose W k t' d ar = s at *
        have hV := s7.1
        rw [s1, s2, s3, s4]
        by_cases c0 : s.1 = 0
        · have h0 := hiff.mp c0
          rcases hy with rfl | rfl | rfl | ⟨m, hm, rfl⟩
          · refine ⟨-2, by rw [if_neg (by decide), if_pos (show nI s.1 = 0 by rw [c0]; rfl)], fun σ3 M => ?_⟩
            rw [if_neg (by decide), M.2.1, h0, if_pos (show nI ([] : Blk).length = 0 from rfl)]
          · refine ⟨-2, by rw [if_neg (by decide), if_pos (show nI s.1 = 0 by rw [c0]; rfl)], fun σ3 M => ?_⟩
            rw [if_neg (by decide), M.2.1, h0, if_pos (show nI ([] : Blk).length = 0 from rfl)]
          · exact ⟨nI s.1, by rw [if_pos rfl], fun σ3 M => by rw [if_pos rfl, M.1]⟩
          · refine ⟨-2, by rw [if_neg (show ¬ nI (m + 10) = 2 from neN (b := 2) (by omega) (by omega) (by omega)), if_pos (show nI s.1 = 0 by rw [c0]; rfl)], fun σ3 M => ?_⟩
            rw [if_neg (show ¬ nI (m + 10) = 2 from neN (b := 2) (by omega) (by omega) (by omega)), M.2.1, h0, if_pos (show nI ([] : Blk).length = 0 from rfl)]
        · have n0 : ¬ nI s.1 = 0 := neN (b := 0) (by omega) (by omega) c0
          have l0 : s.2.2.2.length ≠ 0 := fun z => c0 (hiff.mpr (List.eq_nil_of_length_eq_zero z))
          have n1 : ¬ nI s.2.2.2.length = 0 := neN (b := 0) (by omega) (by omega) l0
          have neg : ∀ z : Int32, z = 0 ∨ z = 1 → z - 10 < nI s.2.2.2.length := fun z hz => by
            rw [fa_lt, nI_toInt (by omega)]
            rcases hz with rfl | rfl
            · rw [show ((0 : Int32) - 10).toInt = -10 by decide]; omega
            · rw [show ((1 : Int32) - 10).toInt = -9 by decide]; omega
          rcases hy with rfl | rfl | rfl | ⟨m, hm, rfl⟩
          · refine ⟨nI s.2.1, by rw [if_neg (by decide), if_neg n0, if_pos rfl], fun σ3 M => ?_⟩
            rw [if_neg (by decide), M.2.1, if_neg n1, if_pos (neg 0 (Or.inl rfl)), if_pos rfl, (M.2.2.2.2.2.2 c0).1]
          · refine ⟨nI s.2.2.1, by rw [if_neg (by decide), if_neg n0, if_neg (by decide), if_pos rfl], fun σ3 M => ?_⟩
            rw [if_neg (by decide), M.2.1, if_neg n1, if_pos (neg 1 (Or.inr rfl)), if_neg (by decide), if_pos rfl, (M.2.2.2.2.2.2 c0).2.1]
          · exact ⟨nI s.1, by rw [if_pos rfl], fun σ3 M => by rw [if_pos rfl, M.1]⟩
          · have e2 : ¬ nI (m + 10) = 2 := neN (b := 2) (by omega) (by omega) (by omega)
            have e0 : ¬ nI (m + 10) = 0 := neN (b := 0) (by omega) (by omega) (by omega)
            have e1 : ¬ nI (m + 10) = 1 := neN (b := 1) (by omega) (by omega) (by omega)
            have em : nI (m + 10) - 10 = nI m := by
              have : nI (m + 10) - 10 = nI (m + 10 - 10) := pk_sub (b := 10) (by omega)
              rw [this, Nat.add_sub_cancel]
            rw [if_neg e2, if_neg n0, if_neg e0, if_neg e1, em, figure_ok N s7 (by omega), obind]
            refine ⟨_, rfl, fun σ3 M => ?_⟩
            rw [if_neg e2, M.2.1, if_neg n1, if_neg e0, if_neg e1]
            by_cases hl : m < s.2.2.2.length
            · have hb : s.2.2.2[m]? = some (s.2.2.2[m]) := List.getElem?_eq_getElem hl
              have hrow := (M.2.2.2.2.2.2 c0).2.2 m _ hb
              rw [Nat.zero_add] at hrow
              rw [if_pos ((nLt (by omega) (by omega)).mpr hl), xld_n (by omega) (by omega), obind, hrow, hb]
            · rw [if_neg (fun z => hl ((nLt (by omega) (by omega)).mp z)), List.getElem?_eq_none (by omega)]
      obtain ⟨r, r1, r2⟩ := hr
      refine SStep.mk hM hW (r := r) (σ1 := τ1) ?_ (F1.x (by decide)) (hC.fr F1 (by decide)) (hX.gro F1 I1) (fun τ M => ?_)
      · rw [e1]
        unfold f_X9_choose_J29
        rw [f1, obind]
        exact r1
      · obtain ⟨σ2, f2, M2, F2⟩ := mchooses_ok N hN w4 a1 a2 a3 (t := t') (by omega) M.2.2.2.1
        refine ⟨σ2, ?_, F2.y (by decide), M.fr F2 (by decide) (by decide)⟩
        rw [e2]
        unfold f_X10_choose_J31
        rw [f2, obind]
        exact r2 σ2 M2
    · exact SStep.ref R (e1 σ) (e2 σ)
  · refine SStep.ref R (r := -1) ?_ ?_
    · unfold f_X9_choose
      rw [(hbad N σ).1, obind]; rfl
    · unfold f_X10_choose
      rw [(hbad N σ).2, obind]; rfl
theorem st_chosen (N : Nat) (hN : 2048 < N) {σ : Wd} (R : SRel σ) (w ks t : Int32) : SStep (f_X9_chosen N w ks t) (f_X10_chosen N w ks t) σ := by
  obtain ⟨T, P, K, d, ar, sh, hW, hC, hX, hM⟩ := id R
  obtain ⟨⟨w1, w1'⟩, w2, w3, w4, w5⟩ := id hW
  rcases want_c w ks t with ⟨W, k, t', a1, a2, a3, a4, rfl, rfl, rfl, hg⟩ | hbad
  · obtain ⟨τ1, e1, C1, F1⟩ := takeName_ok N (by omega) hC.1
    have hW0 : WSt [] P K d ar sh := ⟨⟨by simp, fun x hx => absurd hx List.not_mem_nil⟩, w2, w3, w4, w5⟩
    have C2 := hC.tape F1 C1
    have X2 := hX.fr F1 (by decide) (by decide) (by decide) (by decide)
    cases ht : tkName T with
    | none =>
      rw [ht] at e1
      refine SStep.mk hM hW0 (r := -100) (σ1 := τ1) ?_ (F1.x (by decide)) C2 X2 (fun τ M => ?_)
      · unfold f_X9_chosen
        rw [(hg N σ).1, obind]
        dsimp only
        rw [if_neg (show ¬ (1 : Int32) = 0 by decide), e1, obind]
        dsimp only
        rw [if_pos rfl]
      · obtain ⟨σ2, e2, M2, F2, -⟩ := m_named N hN M.1 w1 w1'
        rw [ht] at e2
        refine ⟨σ2, ?_, F2.y (by decide), M.tape F2 (by decide) (by decide) M2 w5⟩
        unfold f_X10_chosen
        rw [(hg N τ).2, obind]
        dsimp only
        rw [if_neg (show ¬ (1 : Int32) = 0 by decide), e2, obind]
        dsimp only
        rw [if_pos rfl]
    | some nm =>
      have A := tk_WN ht
      rw [ht] at e1
      obtain ⟨τ2, f1, F2, S1, I1⟩ := run_ok N (by omega) C2.2.2.2.1 w4 X2.2.2 (W := W) (ks := k) (t := t') (by omega) a3 (by omega)
      obtain ⟨s1, s2, s3, s4, s5, s6, s7⟩ := S1
      have hs1 := aChoose_1 W k t' a2 d ar
      obtain ⟨σa, -, MSa, -⟩ := mchooses_ok N hN w4 a1 a2 a3 (t := t') (by omega) hM.2.2.2.1
      have hiff := MSa.2.2.1
      clear MSa
      have C3 := C2.fr F2 (by decide)
      have X3 := X2.gro F2 I1
      have eX : f_X9_chosen N (nI W) (nI k) (nI t') σ = if (τ2.1 7 1) = 0 then (some ((-2), τ2)) else ((f_X3_tell N (nI (ncode nm)) (τ2.2 7 4) τ2).bind fun p4 => some (p4.1, p4.2)) := by
        unfold f_X9_chosen
        rw [(hg N σ).1, obind]
        dsimp only
        rw [if_neg (show ¬ (1 : Int32) = 0 by decide), e1, obind]
        dsimp only
        rw [if_neg (show ¬ nI (ncode nm) = 0 from neN (b := 0) A.bd (by omega) A.pos), f1, obind]
      have eM : ∀ τ, MI τ T P K d ar sh → ∃ σ2, MI σ2 [] P K d ar sh ∧ FrY τ σ2 ∧ MSR σ2 (aChoose W k t' d ar) ∧ σ2.1 41 9 = nI nm.length ∧ NRow σ2 47 0 nm ∧ f_X10_chosen N (nI W) (nI k) (nI t') τ = if (σ2.1 41 35) = 0 then (some ((-2), σ2)) else ((f_X10_becomes N 64 8 (σ2.1 41 35) σ2).bind fun p4 => some (p4.1, p4.2)) := fun τ M => by
        obtain ⟨σ1, g1, M1, G1, h⟩ := m_named N hN M.1 w1 w1'
        obtain ⟨h1, h2, -⟩ := h nm ht
        rw [ht] at g1
        have M1' := M.tape G1 (by decide) (by decide) M1 w5
        obtain ⟨σ2, f2, M2, F2⟩ := mchooses_ok N hN w4 a1 a2 a3 (t := t') (by omega) M1'.2.2.2.1
        refine ⟨σ2, M1'.fr F2 (by decide) (by decide), (G1.y (by decide)).tr (F2.y (by decide)), M2, by rw [F2.m (by decide)]; exact h1, h2.fr F2 (by decide) (by decide), ?_⟩
        unfold f_X10_chosen
        rw [(hg N τ).2, obind]
        dsimp only
        rw [if_neg (show ¬ (1 : Int32) = 0 by decide), g1, obind]
        dsimp only
        rw [if_neg (show ¬ (1 : Int32) = 0 by decide), f2, obind]
      generalize aChoose W k t' d ar = s at *
      have hV := s7.1
      rw [s1, s4] at eX
      by_cases c0 : s.1 = 0
      · rw [if_pos (show nI s.1 = 0 by rw [c0]; rfl)] at eX
        refine SStep.mk hM hW0 (r := -2) (σ1 := τ2) eX ((F1.x (by decide)).tr (F2.x (by decide))) C3 X3 (fun τ M => ?_)
        obtain ⟨σ2, M2, Y2, R2, -, -, e2⟩ := eM τ M
        refine ⟨σ2, ?_, Y2, M2⟩
        rw [e2, R2.2.1, hiff.mp c0, if_pos (show nI ([] : Blk).length = 0 from rfl)]
      · rw [if_neg (show ¬ nI s.1 = 0 from neN (b := 0) (by omega) (by omega) c0)] at eX
        have hne : s.2.2.2 ≠ [] := fun z => c0 (hiff.mpr z)
        have l0 : s.2.2.2.length ≠ 0 := fun z => hne (List.eq_nil_of_length_eq_zero z)
        have eM2 : ∀ τ, MI τ T P K d ar sh → ∃ σ2, MI σ2 [] P K d ar sh ∧ FrY τ σ2 ∧ MRow σ2 64 0 s.2.2.2 ∧ σ2.1 41 9 = nI nm.length ∧ NRow σ2 47 0 nm ∧ f_X10_chosen N (nI W) (nI k) (nI t') τ = ((f_X10_becomes N 64 8 (nI s.2.2.2.length) σ2).bind fun p4 => some (p4.1, p4.2)) := fun τ M => by
          obtain ⟨σ2, M2, Y2, R2, h1, h2, e2⟩ := eM τ M
          refine ⟨σ2, M2, Y2, (R2.2.2.2.2.2.2 c0).2.2, h1, h2, ?_⟩
          rw [e2, R2.2.1, if_neg (show ¬ nI s.2.2.2.length = 0 from neN (b := 0) (by omega) (by omega) l0)]
        rcases tell_ok N (by omega) C3.2.1 w2 A (bs := s.2.2.2) with ⟨hroom, τ3, e3, P3, F3⟩ | ⟨hfull, e3⟩
        · have hW2 : WSt [] (tellP P nm s.2.2.2) K d ar sh := ⟨hW0.1, w2.tell A s7 hne hroom, w3, w4, w5⟩
          refine SStep.mk hM hW2 (r := nI (pix P nm)) (σ1 := τ3) (by rw [eX, e3]; rfl) (((F1.x (by decide)).tr (F2.x (by decide))).tr (F3.x (by decide))) (C3.plans F3 P3) (X3.fr F3 (by decide) (by decide) (by decide) (by decide)) (fun τ M => ?_)
          obtain ⟨σ2, M2, Y2, R2, h1, h2, e2⟩ := eM2 τ M
          obtain ⟨σ3, e4, M3, F4⟩ := (becomes_ok N hN M2.2.1 w2 A h1 h2 (Or.inr rfl) s7 R2).1 hroom
          exact ⟨σ3, by rw [e2, e4]; rfl, Y2.tr (F4.y (by decide)), M2.plans F4 M3 w5⟩
        · refine SStep.mk hM hW0 (r := -3) (σ1 := τ2) (by rw [eX, e3]; rfl) ((F1.x (by decide)).tr (F2.x (by decide))) C3 X3 (fun τ M => ?_)
          obtain ⟨σ2, M2, Y2, R2, h1, h2, e2⟩ := eM2 τ M
          exact ⟨σ2, by rw [e2, (becomes_ok N hN M2.2.1 w2 A h1 h2 (Or.inr rfl) s7 R2).2 hfull]; rfl, Y2, M2⟩
  · refine SStep.ref R (r := -1) ?_ ?_
    · unfold f_X9_chosen
      rw [(hbad N σ).1, obind]; rfl
    · unfold f_X10_chosen
      rw [(hbad N σ).2, obind]; rfl
end
