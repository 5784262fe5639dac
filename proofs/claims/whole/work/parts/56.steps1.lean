section
/-! Steps: feed, read, find, forget, plan, name. -/
theorem i32m1 {x : Int32} (h : -1 ≤ x) : x = -1 ∨ ∃ n, n < 2147483648 ∧ x = nI n := by
  rcases i32c x with q | q
  · left
    rw [fa_le, show (-1 : Int32).toInt = -1 by decide] at h
    rw [fa_lt, show (0 : Int32).toInt = 0 by decide] at q
    rw [fa_eq, show (-1 : Int32).toInt = -1 by decide]; omega
  · exact Or.inr q
theorem i32m2 {x : Int32} (h : -2 ≤ x) : x = -2 ∨ x = -1 ∨ ∃ n, n < 2147483648 ∧ x = nI n := by
  by_cases h1 : -1 ≤ x
  · exact Or.inr (i32m1 h1)
  · left
    rw [fa_le, show (-2 : Int32).toInt = -2 by decide] at h
    rw [fa_le, show (-1 : Int32).toInt = -1 by decide] at h1
    rw [fa_eq, show (-2 : Int32).toInt = -2 by decide]; omega
theorem nM {n : Nat} (h : n < 2147483648) : ¬ nI n = -1 ∧ ¬ nI n = -2 ∧ -1 ≤ nI n ∧ -2 ≤ nI n ∧ ¬ nI n < 0 := by
  have h1 : (nI n).toInt = n := nI_toInt h
  refine ⟨fun z => ?_, fun z => ?_, ?_, ?_, neg_lt n h⟩
  · rw [fa_eq, h1, show (-1 : Int32).toInt = -1 by decide] at z; omega
  · rw [fa_eq, h1, show (-2 : Int32).toInt = -2 by decide] at z; omega
  · rw [fa_le, h1, show (-1 : Int32).toInt = -1 by decide]; omega
  · rw [fa_le, h1, show (-2 : Int32).toInt = -2 by decide]; omega
/-- a number between two, or not -/
theorem rng (x : Int32) (a b : Nat) (hb : b < 2147483648) (ha : a ≤ b) : (∃ n, a ≤ n ∧ n ≤ b ∧ x = nI n) ∨ (¬ (nI a ≤ x ∧ x ≤ nI b) ∧ (x < nI a ∨ nI b < x)) := by
  by_cases h1 : nI a ≤ x
  · by_cases h2 : x ≤ nI b
    · left
      rcases i32c x with q | ⟨n, n1, rfl⟩
      · rw [fa_le, nI_toInt (by omega)] at h1
        rw [fa_lt, show (0 : Int32).toInt = 0 by decide] at q
        omega
      · exact ⟨n, (nLe (by omega) n1).mp h1, (nLe n1 hb).mp h2, rfl⟩
    · exact Or.inr ⟨fun z => h2 z.2, Or.inr (gLt h2)⟩
  · exact Or.inr ⟨fun z => h1 z.1, Or.inl (gLt h1)⟩
theorem st_feed (N : Nat) (hN : 2048 < N) {σ : Wd} (R : SRel σ) (x : Int32) : SStep (f_X9_feed N x) (f_X10_feed N x) σ := by
  obtain ⟨T, P, K, d, ar, sh, hW, hC, hX, hM⟩ := id R
  obtain ⟨⟨w1, w1'⟩, w2, w3, w4, w5⟩ := hW
  rcases rng x 32 126 (by omega) (by omega) with ⟨n, n1, n2, rfl⟩ | ⟨h1, h2⟩
  · have eX : f_X9_feed N (nI n) σ = (f_X7_append N (nI n) σ).bind fun p1 => if p1.1 = 0 then (some ((-3), p1.2)) else (some (p1.2.1 1 1, p1.2)) := by
      unfold f_X9_feed
      rw [if_neg (show ¬ nI n < 32 from fun z => by have := (nLt (b := 32) (by omega) (by omega)).mp z; omega), if_pos (show nI n ≤ 126 from (nLe (b := 126) (by omega) (by omega)).mpr n2)]
    have eM : ∀ τ, f_X10_feed N (nI n) τ = if (τ.1 41 8) = 40 then (some ((-3), τ)) else ((xst τ 46 40 (τ.1 41 8) (nI n)).bind fun σ2 => some ((sF σ2 41 8 ((σ2.1 41 8) + 1)).1 41 8, sF σ2 41 8 ((σ2.1 41 8) + 1))) := fun τ => by
      unfold f_X10_feed
      rw [in_y N (lo := 32) (hi := 126) (by decide) (by decide) ⟨(nLe (a := 32) (by omega) (by omega)).mpr n1, (nLe (b := 126) (by omega) (by omega)).mpr n2⟩, obind]
      rfl
    by_cases hl : T.length < 40
    · obtain ⟨σ1, e1, F1, C1, c11⟩ := append_ok N hC.1 n1 n2 hl
      have hW' : WSt (T ++ [n]) P K d ar sh := ⟨⟨by rw [List.length_append]; exact hl, C1.2.2.1⟩, w2, w3, w4, w5⟩
      refine SStep.mk hM hW' (r := nI (T.length + 1)) (σ1 := σ1) (by rw [eX, e1, obind]; dsimp only; rw [if_neg (show ¬ (1 : Int32) = 0 by decide), c11]) (F1.x (by decide)) ⟨C1, hC.2.1.fr F1 (by decide) (by decide) (by decide), hC.2.2.1.fr F1 (by decide) (by decide), hC.2.2.2.1.fr F1 (by decide) (by decide), fun k hk => (hC.2.2.2.2 k hk).eq (fun b => F1.i (by simp; omega) b) (fun b => F1.l (by simp; omega) b) (fun b => F1.l (by simp; omega) b)⟩ (hX.fr F1 (by decide) (by decide) (by decide) (by decide)) (fun τ M => ?_)
      rw [eM, M.1.1, if_neg (show ¬ nI T.length = 40 from neN (b := 40) (by omega) (by omega) (by omega)), xst_n hl (by omega), obind, sF_ne (show 41 ≠ 46 by decide), M.1.1, nI_1, sF_eq]
      have F : FrM [46] [8] τ (sF (sF τ 46 T.length (nI n)) 41 8 (nI (T.length + 1))) := ((FrM.rf _ _ τ).F (by decide) (by decide)).D (by decide)
      refine ⟨_, rfl, F.y (by decide), ⟨by rw [sF_eq, List.length_append]; rfl, fun i hi => ?_⟩, M.2.1.fr F (by decide) (by decide) (by decide) (by decide) (by decide), M.2.2.1.fr F (by decide) (by decide) (by decide), M.2.2.2.1.fr F (by decide) (by decide), fun k hk => (M.2.2.2.2 k hk).eq (F.i (by decide) (by decide) k) (F.i (by decide) (by decide) k) (fun j _ => F.i (by decide) (by decide) _) (fun j _ => F.l (by decide) _) (w5 k hk)⟩
      rw [sF_ne (by decide), getD_app, sF_1, if_pos rfl]
      rw [List.length_append] at hi
      have hi2 : i < T.length + 1 := hi
      by_cases hc : i = T.length
      · rw [if_pos hc, if_pos hc]
      · rw [if_neg hc, if_neg hc]; exact M.1.2 i (by omega)
    · have h40 : T.length = 40 := by omega
      refine SStep.ref R (r := -3) ?_ ?_
      · rw [eX]
        unfold f_X7_append
        rw [hC.1.1, if_neg (show ¬ nI T.length < 40 from fun z => hl ((nLt (b := 40) (by omega) (by omega)).mp z)), obind]
        dsimp only
        rw [if_pos rfl]
      · rw [eM, hM.1.1, if_pos (show nI T.length = 40 by rw [h40]; rfl)]
  · refine SStep.ref R (r := -1) ?_ ?_
    · unfold f_X9_feed
      by_cases h3 : x < 32
      · rw [if_pos h3]
      · rw [if_neg h3, if_neg (show ¬ x ≤ 126 from nGe (h2.resolve_left h3))]
    · unfold f_X10_feed
      rw [in_n N (lo := 32) (hi := 126) (by decide) (by decide) h1, obind]
      rfl
theorem CC.tape {σ τ : Wd} {T T' : Txt} {P : Pl} {K : List Blk} {d ar : Nat → Nat} {sh : Shv} (h : CC σ T P K d ar sh) (F : Fr [1] σ τ) (hT : CTp τ T') : CC τ T' P K d ar sh := ⟨hT, h.2.1.fr F (by decide) (by decide) (by decide), h.2.2.1.fr F (by decide) (by decide), h.2.2.2.1.fr F (by decide) (by decide), fun k hk => (h.2.2.2.2 k hk).eq (fun b => F.i (by simp; omega) b) (fun b => F.l (by simp; omega) b) (fun b => F.l (by simp; omega) b)⟩
theorem CC.plans {σ τ : Wd} {T : Txt} {P P' : Pl} {K : List Blk} {d ar : Nat → Nat} {sh : Shv} (h : CC σ T P K d ar sh) (F : Fr [2, 15, 16] σ τ) (hP : CPl τ P') : CC τ T P' K d ar sh := ⟨h.1.fr F (by decide) (by decide), hP, h.2.2.1.fr F (by decide) (by decide), h.2.2.2.1.fr F (by decide) (by decide), fun k hk => (h.2.2.2.2 k hk).eq (fun b => F.i (by simp; omega) b) (fun b => F.l (by simp; omega) b) (fun b => F.l (by simp; omega) b)⟩
theorem CC.knwn {σ τ : Wd} {T : Txt} {P : Pl} {K K' : List Blk} {d ar : Nat → Nat} {sh : Shv} (h : CC σ T P K d ar sh) (F : Fr [3, 17] σ τ) (hK : CKn τ K') : CC τ T P K' d ar sh := ⟨h.1.fr F (by decide) (by decide), h.2.1.fr F (by decide) (by decide) (by decide), hK, h.2.2.2.1.fr F (by decide) (by decide), fun k hk => (h.2.2.2.2 k hk).eq (fun b => F.i (by simp; omega) b) (fun b => F.l (by simp; omega) b) (fun b => F.l (by simp; omega) b)⟩
theorem MI.tape {σ τ : Wd} {ks fs : List Nat} {T T' : Txt} {P : Pl} {K : List Blk} {d ar : Nat → Nat} {sh : Shv} (h : MI σ T P K d ar sh) (F : FrM ks fs σ τ) (hk : ∀ a, a ∈ [42, 43, 44, 45, 49, 50, 51, 52, 67, 68, 69, 70] → a ∉ ks) (hf : ∀ a, a ∈ [4, 14] → a ∉ fs) (hT : MTp τ T') (hw : ∀ k, k < 4 → WSh (sh k)) : MI τ T' P K d ar sh := ⟨hT, h.2.1.fr F (hf 4 (by decide)) (hk 42 (by decide)) (hk 43 (by decide)) (hk 44 (by decide)) (hk 45 (by decide)), h.2.2.1.fr F (hf 14 (by decide)) (hk 49 (by decide)) (hk 50 (by decide)), h.2.2.2.1.fr F (hk 51 (by decide)) (hk 52 (by decide)), fun k hk4 => (h.2.2.2.2 k hk4).eq (F.i (hk 67 (by decide)) (by decide) k) (F.i (hk 68 (by decide)) (by decide) k) (fun j _ => F.i (hk 69 (by decide)) (by decide) _) (fun j _ => F.l (hk 70 (by decide)) _) (hw k hk4)⟩
theorem MI.plans {σ τ : Wd} {T : Txt} {P P' : Pl} {K : List Blk} {d ar : Nat → Nat} {sh : Shv} (h : MI σ T P K d ar sh) (F : FrM [42, 43, 44, 45] [4] σ τ) (hP : MPl τ P') (hw : ∀ k, k < 4 → WSh (sh k)) : MI τ T P' K d ar sh := ⟨h.1.fr F (by decide) (by decide), hP, h.2.2.1.fr F (by decide) (by decide) (by decide), h.2.2.2.1.fr F (by decide) (by decide), fun k hk4 => (h.2.2.2.2 k hk4).eq (F.i (by decide) (by decide) k) (F.i (by decide) (by decide) k) (fun j _ => F.i (by decide) (by decide) _) (fun j _ => F.l (by decide) _) (hw k hk4)⟩
theorem MI.knwn {σ τ : Wd} {T : Txt} {P : Pl} {K K' : List Blk} {d ar : Nat → Nat} {sh : Shv} (h : MI σ T P K d ar sh) (F : FrM [49, 50] [14] σ τ) (hK : MKn τ K') (hw : ∀ k, k < 4 → WSh (sh k)) : MI τ T P K' d ar sh := ⟨h.1.fr F (by decide) (by decide), h.2.1.fr F (by decide) (by decide) (by decide) (by decide) (by decide), hK, h.2.2.2.1.fr F (by decide) (by decide), fun k hk4 => (h.2.2.2.2 k hk4).eq (F.i (by decide) (by decide) k) (F.i (by decide) (by decide) k) (fun j _ => F.i (by decide) (by decide) _) (fun j _ => F.l (by decide) _) (hw k hk4)⟩
theorem MTp.nil {σ : Wd} (h : σ.1 41 8 = 0) : MTp σ [] := ⟨h, fun i hi => absurd hi (Nat.not_lt_zero i)⟩
/-- what the reference reads of a text -/
theorem m_read (N : Nat) (hN : 2048 < N) {σ : Wd} {T : Txt} (h : MTp σ T) (hl : T.length ≤ 40) (hw : WTx T) :
    (∀ a, (parsT T).1 = some a → ∃ σ2, f_X10_read N σ = some (-100 - nI a, σ2) ∧ MTp σ2 [] ∧ FrM [47, 48] [8, 9, 10, 11] σ σ2) ∧
    ((parsT T).1 = none → ∃ σ1, MTp σ1 [] ∧ FrM [47, 48] [8, 9, 10, 11] σ σ1 ∧ σ1.1 41 9 = nI (T.take (lett T)).length ∧ NRow σ1 47 0 (T.take (lett T)) ∧ MRow σ1 48 0 (parsT T).2 ∧ f_X10_read N σ = (f_X10_becomes N 48 8 (nI (parsT T).2.length) σ1).bind fun p4 => some (p4.1, p4.2)) := by
  obtain ⟨l1, l2, l3⟩ := lett_sp T
  obtain ⟨τ, e, q1, q2, q3, F⟩ := readsName_ok N hN h hl hw
  have ht := h.fr F (by decide) (by decide)
  have hh := here_ok N ht hl q1 (by omega)
  have F' : FrM [47, 48] [8, 9, 10, 11] σ τ := F.mo (by decide) (by decide)
  have bad : ∀ (a : Nat) (τ' : Wd), τ'.1 41 11 = nI a → f_X10_read_J59 N τ' = some (-100 - nI a, sF τ' 41 8 0) := fun a τ' q => by
    unfold f_X10_read_J59 f_X10_read_J60
    dsimp only
    rw [if_pos rfl, sF_nb (show 11 ≠ 8 by decide), q]
  have j24 : f_X10_read_J24 N τ = some (-100 - nI (lett T), sF (sF τ 41 11 (nI (lett T))) 41 8 0) := by
    unfold f_X10_read_J24 f_X10_read_J25 f_X10_read_J40
    dsimp only
    rw [if_pos rfl, if_pos rfl, q1, show nI (lett T) + 0 = nI (lett T) from nAddR _ 0]
    exact bad _ _ sF_eq
  have FJ : FrM [47, 48] [8, 9, 10, 11] σ (sF (sF τ 41 11 (nI (lett T))) 41 8 0) := (F'.D (by decide)).D (by decide)
  unfold f_X10_read
  rw [e, obind, q2]
  by_cases h0 : lett T = 0
  · have hp : parsT T = (some (lett T), []) := by unfold parsT; rw [if_pos (Or.inl h0)]
    rw [hp]
    rw [if_pos (show nI (lett T) ≤ 0 from (nLe (b := 0) (by omega) (by omega)).mpr (by omega)), j24]
    exact ⟨fun a ha => by cases ha; exact ⟨_, rfl, MTp.nil sF_eq, FJ⟩, fun z => by cases z⟩
  · rw [if_neg (show ¬ nI (lett T) ≤ 0 from fun z => by have := (nLe (b := 0) (by omega) (by omega)).mp z; omega), hh, obind]
    by_cases h1 : T.length ≤ lett T
    · have hp : parsT T = (some (lett T), []) := by unfold parsT; rw [if_pos (Or.inr h1)]
      rw [hp, if_neg (show ¬ lett T < T.length by omega)]
      dsimp only
      rw [j24]
      exact ⟨fun a ha => by cases ha; exact ⟨_, rfl, MTp.nil sF_eq, FJ⟩, fun z => by cases z⟩
    · rw [if_pos (show lett T < T.length by omega)]
      dsimp only
      have hb := hw.get (i := lett T) (by omega)
      by_cases h61 : T.getD (lett T) 0 = 61
      · have hp : parsT T = parsB T 41 (lett T + 1) [] := by
          unfold parsT
          rw [if_neg (fun z => z.elim h0 h1), if_neg (fun z => z h61)]
        rw [hp, if_pos (show nI (T.getD (lett T) 0) = 61 by rw [h61]; rfl)]
        unfold f_X10_read_J25 f_X10_read_J40
        dsimp only
        rw [if_neg (show ¬ (1 : Int32) = 0 by decide), if_neg (show ¬ (1 : Int32) = 0 by decide), q1, nI_1]
        have F1 : FrM [47, 48] [8, 9, 10, 11] σ (sF τ 41 11 (nI (lett T + 1))) := F'.D (by decide)
        obtain ⟨τ2, e2, F2, g1, g2⟩ := areBlocks_ok N hN (h.fr (F.D (n := 11) (x := nI (lett T + 1)) (by decide)) (by decide) (by decide)) hl hw (at_ := lett T + 1) (by omega) sF_eq
        have F12 : FrM [47, 48] [8, 9, 10, 11] σ τ2 := F1.tr (F2.mo (by decide) (by decide))
        rw [e2, obind]
        cases hc : (parsB T 41 (lett T + 1) []).1 with
        | some a =>
          dsimp only
          rw [if_pos rfl, bad a τ2 (g1 a hc)]
          exact ⟨fun a' ha => by cases ha; exact ⟨_, rfl, MTp.nil sF_eq, F12.D (by decide)⟩, fun z => by cases z⟩
        | none =>
          dsimp only
          rw [if_neg (show ¬ (1 : Int32) = 0 by decide)]
          refine ⟨(fun a ha => by cases ha), fun _ => ?_⟩
          obtain ⟨b1, b2⟩ := g2 hc
          have hlen : (T.take (lett T)).length = lett T := by rw [List.length_take]; omega
          refine ⟨sF τ2 41 8 0, MTp.nil sF_eq, F12.D (by decide), ?_, fun i x hx => ?_, fun i b hb => ?_, ?_⟩
          · rw [sF_nb (by decide), F2.m (by decide), sF_nb (by decide), q2, hlen]
          · have hi := (List.getElem?_eq_some_iff.mp hx).1
            rw [hlen] at hi
            rw [List.getElem?_take, if_pos hi, getD_some (by omega)] at hx
            have hx2 : T.getD i 0 = x := Option.some.inj hx
            have := l3 i hi
            rw [Nat.zero_add, sF_ne (by decide), F2.i (by decide) (by decide), sF_ne (by decide), q3 i hi, hx2]
            exact ⟨rfl, by omega⟩
          · rw [sF_ne (by decide)]; exact b2 i b hb
          · unfold f_X10_read_J60
            dsimp only
            rw [if_neg (show ¬ (1 : Int32) = 0 by decide), sF_nb (show 10 ≠ 8 by decide), b1]
      · have hp : parsT T = (some (lett T), []) := by
          unfold parsT
          rw [if_neg (fun z => z.elim h0 h1), if_pos h61]
        rw [hp, if_neg (show ¬ nI (T.getD (lett T) 0) = 61 from neN (b := 61) (by omega) (by omega) h61), j24]
        exact ⟨fun a ha => by cases ha; exact ⟨_, rfl, MTp.nil sF_eq, FJ⟩, fun z => by cases z⟩
theorem m_named (N : Nat) (hN : 2048 < N) {σ : Wd} {T : Txt} (h : MTp σ T) (hl : T.length ≤ 40) (hw : WTx T) : ∃ τ, f_X10_isNamed N σ = some (match tkName T with | some _ => 1 | none => 0, τ) ∧ MTp τ [] ∧ FrM [47] [8, 9, 11] σ τ ∧ ∀ nm, tkName T = some nm → τ.1 41 9 = nI nm.length ∧ NRow τ 47 0 nm ∧ WN nm := by
  obtain ⟨l1, l2, l3⟩ := lett_sp T
  obtain ⟨τ, e, q1, q2, q3, F⟩ := readsName_ok N hN h hl hw
  have F8 : FrM [47] [8, 9, 11] σ (sF τ 41 8 0) := (F.mo (by decide) (by decide)).D (by decide)
  unfold f_X10_isNamed tkName
  rw [e, obind, q2]
  by_cases h0 : lett T = 0
  · rw [if_pos (show nI (lett T) ≤ 0 from (nLe (b := 0) (by omega) (by omega)).mpr (by omega)), if_neg (fun z => by omega)]
    exact ⟨_, rfl, MTp.nil sF_eq, F8, fun nm z => by cases z⟩
  · rw [if_neg (show ¬ nI (lett T) ≤ 0 from fun z => by have := (nLe (b := 0) (by omega) (by omega)).mp z; omega), q1, F.m (by decide), h.1]
    by_cases hc : lett T = T.length
    · rw [if_pos (by rw [hc]), if_pos ⟨hc, by omega⟩]
      refine ⟨_, rfl, MTp.nil sF_eq, F8, fun nm z => ?_⟩
      cases z
      refine ⟨by rw [sF_nb (by decide), q2, hc], fun i x hx => ?_, ?_⟩
      · have hi := (List.getElem?_eq_some_iff.mp hx).1
        rw [getD_some hi] at hx
        have hx2 : T.getD i 0 = x := Option.some.inj hx
        have := l3 i (by omega)
        rw [Nat.zero_add, sF_ne (by decide), q3 i (by omega), hx2]
        exact ⟨rfl, by omega⟩
      · have := take_WN T (j := lett T) (by omega) (Nat.le_refl _)
        rw [hc, List.take_length] at this
        exact this
    · rw [if_neg (neN (by omega) (by omega) hc), if_neg (fun z => hc z.1)]
      exact ⟨_, rfl, MTp.nil sF_eq, F8, fun nm z => by cases z⟩
end
