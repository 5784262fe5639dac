section
/-! Marks, counts and times of the reference's nets. -/
def UP (σ : Wd) (m : Nat) (X : Nat → Nat) (u : Nat → Prop) : Prop := ∀ j, j < 2048 → (u j ∧ σ.1 56 j = nI (X j ||| m)) ∨ (¬ u j ∧ σ.1 56 j = nI (X j))
def XB (m : Nat) (X : Nat → Nat) : Prop := (m = 1 ∨ m = 2) ∧ ∀ j, X j < 4 ∧ X j &&& m = 0
theorem UP.cg {σ : Wd} {m : Nat} {X : Nat → Nat} {u v : Nat → Prop} (h : UP σ m X u) (hv : ∀ j, j < 2048 → (v j ↔ u j)) : UP σ m X v := fun j hj => by
  rcases h j hj with ⟨a, b⟩ | ⟨a, b⟩
  · exact Or.inl ⟨(hv j hj).mpr a, b⟩
  · exact Or.inr ⟨fun z => a ((hv j hj).mp z), b⟩
theorem UP.set {σ : Wd} {m z : Nat} {X : Nat → Nat} {u : Nat → Prop} (h : UP σ m X u) : UP (sF σ 56 z (nI (X z ||| m))) m X (fun j => u j ∨ j = z) := fun j hj => by
  by_cases hz : j = z
  · left; exact ⟨Or.inr hz, by rw [hz, sF_eq]⟩
  · rw [sF_nb hz]
    rcases h j hj with ⟨a, b⟩ | ⟨a, b⟩
    · exact Or.inl ⟨Or.inl a, b⟩
    · exact Or.inr ⟨fun z => z.elim a hz, b⟩
theorem or4 : ∀ a, a < 4 → ∀ b, b < 4 → nI a ||| nI b = nI (a ||| b) := by decide +kernel
theorem and4 : ∀ a, a < 4 → ∀ b, b < 4 → nI a &&& nI b = nI (a &&& b) := by decide +kernel
theorem or4m : ∀ a, a < 4 → ∀ m, m < 4 → (a ||| m) < 4 ∧ (a ||| m) ||| m = a ||| m ∧ (a ||| m) &&& m = m ∧ a ||| 0 = a := by decide +kernel
theorem XB.bd {m : Nat} {X : Nat → Nat} (h : XB m X) : m < 4 := by rcases h.1 with q | q <;> omega
theorem UP.or {σ : Wd} {m z : Nat} {X : Nat → Nat} {u : Nat → Prop} (h : UP σ m X u) (hX : XB m X) (hz : z < 2048) : σ.1 56 z ||| nI m = nI (X z ||| m) := by
  have h4 := hX.bd
  have hx := (hX.2 z).1
  obtain ⟨a1, a2, -, -⟩ := or4m _ hx _ h4
  rcases h z hz with ⟨-, b⟩ | ⟨-, b⟩
  · rw [b, or4 _ a1 _ h4, a2]
  · rw [b, or4 _ hx _ h4]
theorem UP.or0 {σ : Wd} {m z : Nat} {X : Nat → Nat} {u : Nat → Prop} (h : UP σ m X u) (hX : XB m X) (hz : z < 2048) : σ.1 56 z ||| nI 0 = σ.1 56 z := by
  have h4 := hX.bd
  have hx := (hX.2 z).1
  obtain ⟨a1, a2, -, a3⟩ := or4m _ hx _ h4
  rcases h z hz with ⟨-, b⟩ | ⟨-, b⟩
  · rw [b, or4 _ a1 _ (by omega), (or4m _ a1 _ h4).2.2.2]
  · rw [b, or4 _ hx _ (by omega), a3]
theorem UP.and {σ : Wd} {m z : Nat} {X : Nat → Nat} {u : Nat → Prop} (h : UP σ m X u) (hX : XB m X) (hz : z < 2048) : (u z ∧ σ.1 56 z &&& nI m = nI m) ∨ (¬ u z ∧ σ.1 56 z &&& nI m = nI 0) := by
  have h4 := hX.bd
  obtain ⟨hx, hx2⟩ := hX.2 z
  obtain ⟨a1, -, a2, -⟩ := or4m _ hx _ h4
  rcases h z hz with ⟨a, b⟩ | ⟨a, b⟩
  · exact Or.inl ⟨a, by rw [b, and4 _ a1 _ h4, a2]⟩
  · exact Or.inr ⟨a, by rw [b, and4 _ hx _ h4, hx2]⟩
theorem mmark1 (N : Nat) (hN : 2048 < N) (KO : Int32 → Wd → Option Wd) {σ : Wd} {n w m : Nat} {oz X : Nat → Nat} (hn : n ≤ 2048) (HO : MOG σ n w oz) (hX : XB m X) (h0 : UP σ m X (fun _ => False)) : ∃ τ, (FrM [56] [] σ τ ∧ UP τ m X (fun j => ∃ i, i < w + 1 ∧ j = oz i)) ∧ f_X10_marks_L2 N KO N (nI m) 0 σ = KO (nI m) τ := by
  have hw := HO.1
  refine lp_up (g := fun fu i σ => f_X10_marks_L2 N KO fu (nI m) (nI i) σ) (E := KO (nI m)) (P := fun i τ => FrM [56] [] σ τ ∧ UP τ m X (fun j => ∃ o, o < i ∧ j = oz o)) (m := w + 1) ?_ ?_ (w + 1) N 0 σ (by omega) (by omega) ⟨FrM.rf _ _ σ, h0.cg (fun j hj => ⟨fun ⟨o, o1, o2⟩ => by omega, fun z => absurd z (fun z => z)⟩)⟩
  · intro fu i τ hi ⟨F, U⟩
    have HO2 := HO.fr F (by decide) (by decide)
    have hz := HO.2.2.2 i hi
    refine ⟨sF τ 56 (oz i) (nI (X (oz i) ||| m)), ⟨F.F (by decide) (by decide), U.set.cg fun j hj => ?_⟩, ?_⟩
    · constructor
      · rintro ⟨o, o1, o2⟩
        by_cases hoi : o = i
        · exact Or.inr (hoi ▸ o2)
        · exact Or.inl ⟨o, by omega, o2⟩
      · rintro (⟨o, o1, o2⟩ | e)
        · exact ⟨o, by omega, o2⟩
        · exact ⟨i, by omega, e⟩
    · rw [f_X10_marks_L2, HO2.2.1, if_neg (fun z => by have := (nLe (by omega) (by omega)).mp z; omega), xld_n (by omega) (by omega), obind, HO2.2.2.1 i hi, xld_n (by omega) (by omega), obind, U.or hX (by omega), xst_n (by omega) (by omega), obind, nI_1]
  · intro fu τ ⟨F, U⟩
    have HO2 := HO.fr F (by decide) (by decide)
    rw [f_X10_marks_L2, HO2.2.1, if_pos ((nLe (by omega) (by omega)).mpr (Nat.le_refl _))]
theorem mmark2 (N : Nat) (hN : 2048 < N) (KO : Wd → Option Wd) {σ : Wd} {n m : Nat} {kd l r den X : Nat → Nat} (H : MNet σ n kd l r den) (hX : XB m X) {T : Nat → Prop} (hTn : ∀ j, T j → j < n) (h0 : UP σ m X T) : ∃ τ, (FrM [56] [] σ τ ∧ UP τ m X (fun j => j < n ∧ ∃ o, o < n ∧ T o ∧ sub (den j) (den o))) ∧ f_X10_marks_L38 N KO N (nI m) (nI (n - 1)) σ = KO τ := by
  obtain ⟨hT, hn, -⟩ := id H
  have hRR := rr_sub hT lfM_ok
  have h27 := hT.1
  have key := lp_dn (g := fun fu i σ => f_X10_marks_L38 N KO fu (nI m) (nI (i - 1)) σ) (E := KO) (P := fun i τ => FrM [56] [] σ τ ∧ i ≤ n ∧ ∃ u, (∀ j, u j → j < n) ∧ UP τ m X u ∧ MKv n l r den (fun _ => True) (fun _ => True) (fun s k => sub s (den k)) T i u) (lo := 27) ?_ ?_ (n - 27) N n σ (by omega) (by omega) ⟨FrM.rf _ _ σ, Nat.le_refl n, T, hTn, h0, mkv_0 hRR⟩
  · obtain ⟨τ, ⟨h1, -, u, hun, hu, hM⟩, e⟩ := key
    exact ⟨τ, ⟨h1, hu.cg fun j hj => ⟨fun ⟨z1, z2⟩ => (mkv_end hT hRR hM j z1).mpr z2, fun z => ⟨hun j z, (mkv_end hT hRR hM j (hun j z)).mp z⟩⟩⟩, e⟩
  · intro fu i τ hi ⟨F, hin, u, hun, hu, hM⟩
    obtain ⟨-, -, -, -, hg⟩ := H.fr F (by decide) (by decide) (by decide) (by decide)
    obtain ⟨g1, g2, g3, -⟩ := hg i hi (by omega)
    obtain ⟨a1, a2, a3, -⟩ := hT.2.2.1 i hi (by omega)
    rcases hu.and hX (z := i) (by omega) with ⟨u1, u2⟩ | ⟨u1, u2⟩
    · have U2 := hu.set (z := l i)
      have U3 := U2.set (z := r i)
      have g3' : (sF τ 56 (l i) (nI (X (l i) ||| m))).1 55 i = nI (r i) := by rw [sF_ne (by decide)]; exact g3
      have hor := U2.or hX (z := r i) (by omega)
      refine ⟨sF (sF τ 56 (l i) (nI (X (l i) ||| m))) 56 (r i) (nI (X (r i) ||| m)), ⟨(F.F (by decide) (by decide)).F (by decide) (by decide), by omega, _, fun j hj => ?_, U3, mkv_step hT hRR hi (by omega) hM fun j hj => ?_⟩, ?_⟩
      · rcases hj with (h | h) | h
        · exact hun j h
        · omega
        · omega
      · simp only [u1, true_and, or_assoc]
      · rw [f_X10_marks_L38, Nat.add_sub_cancel, if_neg (show ¬ nI i < 27 from fun z => by have := (nLt (b := 27) (by omega) (by omega)).mp z; omega), xld_n (by omega) (by omega), obind, xld_n (by omega) (by omega), obind, g2, xld_n (by omega) (by omega), obind, u2, hu.or hX (by omega), xst_n (by omega) (by omega), obind, xld_n (by omega) (by omega), obind, g3', xld_n (by omega) (by omega), obind, hor, xst_n (by omega) (by omega), obind, nM1 (by omega)]
    · refine ⟨τ, ⟨F, by omega, u, hun, hu, mkv_step hT hRR hi (by omega) hM fun j hj => ?_⟩, ?_⟩
      · simp only [u1, false_and, or_false]
      · rw [f_X10_marks_L38, Nat.add_sub_cancel, if_neg (show ¬ nI i < 27 from fun z => by have := (nLt (b := 27) (by omega) (by omega)).mp z; omega), xld_n (by omega) (by omega), obind, xld_n (by omega) (by omega), obind, g2, xld_n (by omega) (by omega), obind, u2, hu.or0 hX (by omega), xst_n (by omega) (by omega), obind, sF_id, xld_n (by omega) (by omega), obind, g3, xld_n (by omega) (by omega), obind, hu.or0 hX (by omega), xst_n (by omega) (by omega), obind, sF_id, nM1 (by omega)]
  · intro fu τ hP
    rw [f_X10_marks_L38, if_pos (show nI (27 - 1) < 27 from (nLt (b := 27) (by omega) (by omega)).mpr (by omega))]
theorem mmarks_ok (N : Nat) (hN : 2048 < N) {σ : Wd} {n w m : Nat} {kd l r den oz X : Nat → Nat} (H : MNet σ n kd l r den) (HO : MOG σ n w oz) (hX : XB m X) (h0 : UP σ m X (fun _ => False)) : ∃ τ, f_X10_marks N (nI m) σ = some τ ∧ FrM [56] [] σ τ ∧ UP τ m X (fun j => j < n ∧ ∃ o, o < n ∧ (∃ i, i < w + 1 ∧ o = oz i) ∧ sub (den j) (den o)) := by
  unfold f_X10_marks
  obtain ⟨τ1, ⟨F1, U1⟩, e1⟩ := mmark1 N hN (f_X10_marks_J31 N) H.2.1 HO hX h0
  rw [e1]
  unfold f_X10_marks_J31
  have H1 := H.fr F1 (by decide) (by decide) (by decide) (by decide)
  obtain ⟨τ2, ⟨F2, U2⟩, e2⟩ := mmark2 N hN (f_X10_marks_J89 N) H1 hX (fun j ⟨i, i1, i2⟩ => by rw [i2]; exact HO.2.2.2 i i1) U1
  have h27 := H.1.1
  rw [H1.2.2.1, show nI n - 1 = nI (n - 1) from nSub (b := 1) (by omega), e2]
  exact ⟨τ2, rfl, F1.tr F2, U2⟩
theorem mused_loop (N : Nat) (hN : 2048 < N) {σ : Wd} {n mk : Nat} {kd l r den X : Nat → Nat} (H : MNet σ n kd l r den) (hX : ∀ k, k < 2048 → σ.1 56 k = nI (X k) ∧ X k < 4) (hmk : mk < 4) {k : Option Nat} (hk : ∀ q, k = some q → q < 4) {f : Nat → Bool} (hf : ∀ j, f j = true ↔ X j &&& mk = mk ∧ ∀ q, k = some q → kd j = q) :
    f_X10_manyUsed N (kindI k) (nI mk) σ = some (nI (cntB f n), σ) := by
  obtain ⟨hT, hn, h45, -, h18⟩ := id H
  have h27 := hT.1
  unfold f_X10_manyUsed
  have key := lp_up (g := fun fu i c => f_X10_manyUsed_L6 N (f_X10_manyUsed_J57 N) fu (kindI k) (nI mk) c (nI i) σ) (E := fun c => f_X10_manyUsed_J57 N c σ) (P := fun i c => 27 ≤ i ∧ c = nI (cntB f i)) (m := n) ?_ ?_ (n - 27) N 27 0 (by omega) (by omega) ⟨by omega, by rw [cntB_27]; rfl⟩
  · obtain ⟨c, ⟨-, rfl⟩, e⟩ := key
    exact e
  · rintro fu i c hi ⟨hi27, rfl⟩
    have hcb := cntB_le f i
    have hfi := hf i
    obtain ⟨x1, x2⟩ := hX i (by omega)
    have hsm : X i &&& mk ≤ mk := Nat.and_le_right
    refine ⟨nI (cntB f (i + 1)), ⟨by omega, rfl⟩, ?_⟩
    rw [cntB_s hi27, f_X10_manyUsed_L6, h45, if_neg (fun z => by have := (nLe (by omega) (by omega)).mp z; omega), xld_n (by omega) (by omega), obind, x1, and4 _ x2 _ hmk]
    by_cases c1 : X i &&& mk = mk
    · rw [if_pos (by rw [c1])]
      cases k with
      | none =>
        have : f i = true := hfi.mpr ⟨c1, fun q hq => by simp at hq⟩
        rw [if_pos this, if_pos (show kindI none < 0 by decide), nI_1, nI_1]
      | some q =>
        have hq := hk q rfl
        obtain ⟨e1, -⟩ := h18 i hi27 hi
        have hkd := (hT.2.2.1 i hi27 (by omega)).1
        rw [if_neg (show ¬ kindI (some q) < 0 from neg_lt q (by omega)), xld_n (by omega) (by omega), obind, e1]
        by_cases hkq : kd i = q
        · have : f i = true := hfi.mpr ⟨c1, fun p hp => by rw [← Option.some.inj hp]; exact hkq⟩
          rw [if_pos this, if_pos (show nI (kd i) = kindI (some q) by rw [hkq]; rfl), nI_1, nI_1]
        · have : ¬ f i = true := fun z => hkq ((hfi.mp z).2 q rfl)
          rw [if_neg this, if_neg (show ¬ nI (kd i) = kindI (some q) from neN (by omega) (by omega) hkq), nI_1, show nI (cntB f i) + 0 = nI (cntB f i) from nAddR _ 0]; rfl
    · have : ¬ f i = true := fun z => c1 (hfi.mp z).1
      rw [if_neg this, if_neg (neN (by omega) (by omega) c1), nI_1, show nI (cntB f i) + 0 = nI (cntB f i) from nAddR _ 0]; rfl
  · intro fu c hP
    rw [f_X10_manyUsed_L6, h45, if_pos ((nLe (by omega) (by omega)).mpr (Nat.le_refl _))]
theorem mgcnt_eq {n w : Nat} {kd l r den oz : Nat → Nat} (hT : NT lfM n kd l r den) (hoz : ∀ i, i < w + 1 → oz i < n) {k : Option Nat} {f : Nat → Bool} (hf : ∀ j, f j = true ↔ (j < n ∧ ∃ o, o < n ∧ (∃ i, i < w + 1 ∧ o = oz i) ∧ sub (den j) (den o)) ∧ ∀ q, k = some q → kd j = q) : gcnt (fun t => ∃ i, i ≤ w ∧ t = den (oz i)) k = cntB f n := by
  unfold gcnt cntB
  refine cnt_net hT lfM_ok ?_ ?_
  · rintro s ⟨s1, ⟨t, ⟨i, i1, rfl⟩, s2⟩, -⟩
    have hz := hoz i (by omega)
    obtain ⟨j, j1, rfl⟩ := sub_den hT lfM_ok (oz i) hz s s2
    exact ⟨j, (hT.den_ge lfM_ok (by omega)).mp s1, by omega, rfl⟩
  · intro j j1 j2
    rw [hf]
    obtain ⟨a1, -, -, a4⟩ := hT.2.2.1 j j1 j2
    have hk2 : tK (den j) = kd j := by rw [a4, tK_mk _ _ a1]
    constructor
    · rintro ⟨⟨-, o, o1, ⟨i, i1, rfl⟩, o3⟩, o4⟩
      exact ⟨(hT.den_ge lfM_ok j2).mpr j1, ⟨_, ⟨i, by omega, rfl⟩, o3⟩, fun q hq => by rw [hk2]; exact o4 q hq⟩
    · rintro ⟨-, ⟨t, ⟨i, i1, rfl⟩, o3⟩, o4⟩
      exact ⟨⟨j2, oz i, hoz i (by omega), ⟨i, by omega, rfl⟩, o3⟩, fun q hq => by rw [← hk2]; exact o4 q hq⟩
/-- delays and arrivals, as the reference holds them -/
def MDA (σ : Wd) (d ar : Nat → Nat) : Prop := (∀ k, k < 4 → σ.1 51 k = nI (d k)) ∧ (∀ i, i < 25 → σ.1 52 i = nI (ar i))
theorem MDA.fr {σ τ : Wd} {ks fs : List Nat} {d ar : Nat → Nat} (H : MDA σ d ar) (F : FrM ks fs σ τ) (h0 : 51 ∉ ks) (h1 : 52 ∉ ks) : MDA τ d ar :=
  ⟨fun k hk => by rw [F.i h0 (by decide)]; exact H.1 k hk, fun k hk => by rw [F.i h1 (by decide)]; exact H.2 k hk⟩
theorem RW.frm {σ τ : Wd} {ks fs : List Nat} {K n : Nat} {W : Nat → Nat} (H : RW σ K n W) (F : FrM ks fs σ τ) (hK : K ∉ ks) (h4 : K ≠ 41) : RW τ K n W := fun k hk => by
  rw [F.i hK h4]; exact H k hk
theorem mtimes_ok (N : Nat) (hN : 2048 < N) {σ : Wd} {n : Nat} {kd l r den d ar : Nat → Nat} (H : MNet σ n kd l r den) (hD : MDA σ d ar) (hb : dab d ar) : ∃ τ, f_X10_tellsTimes N σ = some τ ∧ FrM [57, 59] [] σ τ ∧ RW τ 57 n (fun k => TM d ar (den k)) ∧ RW τ 59 n (fun k => (DP d ar (den k)).2) := by
  obtain ⟨hT, hn, h45, -, hg⟩ := id H
  have h27 := hT.1
  unfold f_X10_tellsTimes
  obtain ⟨τ0, ⟨F0, R0, S0⟩, e0⟩ := lp_up (g := fun fu i s => f_X10_tellsTimes_L2 N (f_X10_tellsTimes_J43 N) fu (nI i) s) (E := fun s => f_X10_tellsTimes_J43 N s) (P := fun i τ => FrM [57, 59] [] σ τ ∧ RW τ 57 i (fun k => tmL ar k) ∧ RW τ 59 i (fun _ => 0)) (m := 27) (fun fu i τ hi ⟨F, R, S⟩ => by
      have hle : ¬ 27 ≤ i := by omega
      have htm := tmL_le hb i
      have R2 := R.put (show tmL ar i < 1000000 by omega)
      have S2 : RW (sF (sF τ 57 i (nI (tmL ar i))) 59 i (nI 0)) 59 (i + 1) (fun _ => 0) := (S.ne (by decide)).put (by omega)
      refine ⟨sF (sF τ 57 i (nI (tmL ar i))) 59 i (nI 0), ⟨(F.F (by decide) (by decide)).F (by decide) (by decide), R2.ne (by decide), S2⟩, ?_⟩
      rw [f_X10_tellsTimes_L2, if_neg (show ¬ (27 : Int32) ≤ nI i from fun z => hle ((nLe (a := 27) (by omega) (by omega)).mp z))]
      by_cases h24 : 24 < i
      · rw [if_pos (show (24 : Int32) < nI i from (nLt (a := 24) (by omega) (by omega)).mpr h24)]
        unfold f_X10_tellsTimes_J29
        rw [xst_n (by omega) (by omega), obind, xst_n (by omega) (by omega), obind, nI_1]
        unfold tmL
        rw [if_neg (by omega)]; rfl
      · rw [if_neg (show ¬ (24 : Int32) < nI i from fun z => h24 ((nLt (a := 24) (by omega) (by omega)).mp z)), xld_n (by omega) (by omega), obind, (hD.fr F (by decide) (by decide)).2 i (by omega)]
        unfold f_X10_tellsTimes_J29
        rw [xst_n (by omega) (by omega), obind, xst_n (by omega) (by omega), obind, nI_1]
        unfold tmL
        rw [if_pos (by omega)]; rfl) (fun fu τ hP => by
      rw [f_X10_tellsTimes_L2, if_pos (show (27 : Int32) ≤ nI 27 from (nLe (a := 27) (by omega) (by omega)).mpr (Nat.le_refl 27))]) 27 N 0 σ (by omega) (by omega) ⟨FrM.rf _ _ σ, fun k hk => absurd hk (Nat.not_lt_zero k), fun k hk => absurd hk (Nat.not_lt_zero k)⟩
  have e0' : f_X10_tellsTimes_L2 N (f_X10_tellsTimes_J43 N) N 0 σ = f_X10_tellsTimes_J43 N τ0 := e0
  rw [e0']
  unfold f_X10_tellsTimes_J43
  obtain ⟨τ, ⟨-, F, R, S⟩, e⟩ := lp_up (g := fun fu i s => f_X10_tellsTimes_L46 N (f_X10_tellsTimes_J194 N) fu (nI i) s) (E := fun s => f_X10_tellsTimes_J194 N s) (P := fun i τ => 27 ≤ i ∧ FrM [57, 59] [] σ τ ∧ RW τ 57 i (fun k => TM d ar (den k)) ∧ RW τ 59 i (fun k => (DP d ar (den k)).2)) (m := n) (fun fu i τ hi ⟨hi27, F, R, S⟩ => by
      have H2 := H.fr F (by decide) (by decide) (by decide) (by decide)
      have D2 := hD.fr F (by decide) (by decide)
      obtain ⟨a1, a2, a3, -⟩ := hT.2.2.1 i hi27 hi
      obtain ⟨g1, g2, g3, -⟩ := H2.2.2.2.2 i hi27 hi
      have hgt := tm_gate hT (d := d) (ar := ar) hi27 hi
      have hgd := dp_gate hT (d := d) (ar := ar) hi27 hi
      obtain ⟨p1, p2⟩ := dp_1 hT lfM_ok (d := d) (ar := ar) (l i) (by omega)
      obtain ⟨p3, p4⟩ := dp_1 hT lfM_ok (d := d) (ar := ar) (r i) (by omega)
      rw [p1, p3] at hgd
      have hgd2 : (DP d ar (den i)).2 = 1 + max (if TM d ar (den (l i)) = max (TM d ar (den (l i))) (TM d ar (den (r i))) then (DP d ar (den (l i))).2 else 0) (if TM d ar (den (r i)) = max (TM d ar (den (l i))) (TM d ar (den (r i))) then (DP d ar (den (r i))).2 else 0) := by rw [hgd]
      have hbd := tm_bd hT lfM_ok hb i hi
      obtain ⟨p5, p6⟩ := dp_1 hT lfM_ok (d := d) (ar := ar) i hi
      obtain ⟨r1, r2⟩ := R (l i) a2
      obtain ⟨r3, r4⟩ := R (r i) a3
      obtain ⟨s1, s2⟩ := S (l i) a2
      obtain ⟨s3, s4⟩ := S (r i) a3
      have hdd := hb.1 _ a1
      have R2 := R.put (show TM d ar (den i) < 1000000 by omega)
      have S2 : RW (sF (sF τ 57 i (nI (TM d ar (den i)))) 59 i (nI (DP d ar (den i)).2)) 59 (i + 1) (fun k => (DP d ar (den k)).2) := (S.ne (by decide)).put (by omega)
      refine ⟨sF (sF τ 57 i (nI (TM d ar (den i)))) 59 i (nI (DP d ar (den i)).2), ⟨by omega, (F.F (by decide) (by decide)).F (by decide) (by decide), R2.ne (by decide), S2⟩, ?_⟩
      dsimp only at r1 r3 s1 s3
      generalize TM d ar (den (l i)) = A at *
      generalize TM d ar (den (r i)) = B at *
      generalize (DP d ar (den (l i))).2 = C at *
      generalize (DP d ar (den (r i))).2 = D at *
      have fin : ∀ m, (DP d ar (den i)).2 = 1 + m → f_X10_tellsTimes_J156 N (f_X10_tellsTimes_L46 N (f_X10_tellsTimes_J194 N) fu) (f_X10_tellsTimes_J194 N) (nI i) (nI (max A B)) (nI m) τ = f_X10_tellsTimes_L46 N (f_X10_tellsTimes_J194 N) fu (nI (i + 1)) (sF (sF τ 57 i (nI (TM d ar (den i)))) 59 i (nI (DP d ar (den i)).2)) := fun m hm => by
        unfold f_X10_tellsTimes_J156
        rw [xld_n (by omega) (by omega), obind, g1, xld_n (by omega) (by omega), obind, D2.1 _ a1, nI_add, ← hgt, xst_n (by omega) (by omega), obind, show (1 : Int32) + nI m = nI (1 + m) from nAddL 1 m, ← hm, xst_n (by omega) (by omega), obind, nI_1]
      have mid : f_X10_tellsTimes_J98 N (f_X10_tellsTimes_L46 N (f_X10_tellsTimes_J194 N) fu) (f_X10_tellsTimes_J194 N) (nI i) (nI (l i)) (nI (r i)) (nI (max A B)) τ = f_X10_tellsTimes_L46 N (f_X10_tellsTimes_J194 N) fu (nI (i + 1)) (sF (sF τ 57 i (nI (TM d ar (den i)))) 59 i (nI (DP d ar (den i)).2)) := by
        have m2 : ∀ y, y < 1000000 → (DP d ar (den i)).2 = 1 + max y (if B = max A B then D else 0) → f_X10_tellsTimes_J121 N (f_X10_tellsTimes_L46 N (f_X10_tellsTimes_J194 N) fu) (f_X10_tellsTimes_J194 N) (nI i) (nI (r i)) (nI (max A B)) (nI y) τ = f_X10_tellsTimes_L46 N (f_X10_tellsTimes_J194 N) fu (nI (i + 1)) (sF (sF τ 57 i (nI (TM d ar (den i)))) 59 i (nI (DP d ar (den i)).2)) := fun y hy hd => by
          unfold f_X10_tellsTimes_J121 f_X10_tellsTimes_J154
          rw [xld_n (by omega) (by omega), obind, r3]
          by_cases c1 : B = max A B
          · rw [if_pos (by rw [← c1]), xld_n (by omega) (by omega), obind, s3]
            rw [if_pos c1] at hd
            by_cases c2 : D ≤ y
            · rw [if_pos ((nLe (by omega) (by omega)).mpr c2)]
              exact fin y (by rw [hd]; omega)
            · rw [if_neg (fun z => c2 ((nLe (by omega) (by omega)).mp z)), obind]
              exact fin D (by rw [hd]; omega)
          · rw [if_neg (neN (by omega) (by omega) c1)]
            rw [if_neg c1] at hd
            exact fin y (by rw [hd]; omega)
        unfold f_X10_tellsTimes_J98
        rw [xld_n (by omega) (by omega), obind, r1]
        by_cases c1 : A = max A B
        · rw [if_pos (by rw [← c1]), xld_n (by omega) (by omega), obind, s1]
          rw [if_pos c1] at hgd2
          exact m2 C (by omega) hgd2
        · rw [if_neg (neN (by omega) (by omega) c1)]
          rw [if_neg c1] at hgd2
          exact m2 0 (by omega) hgd2
      rw [f_X10_tellsTimes_L46, H2.2.2.1, if_neg (fun z => by have := (nLe (by omega) (by omega)).mp z; omega), xld_n (by omega) (by omega), obind, g2, xld_n (by omega) (by omega), obind, g3, xld_n (by omega) (by omega), obind, r1, xld_n (by omega) (by omega), obind, r3]
      by_cases c1 : A ≤ B
      · rw [if_pos ((nLe (by omega) (by omega)).mpr c1), obind]
        rw [Nat.max_eq_right c1] at mid
        exact mid
      · rw [if_neg (fun z => c1 ((nLe (by omega) (by omega)).mp z)), obind]
        rw [Nat.max_eq_left (by omega)] at mid
        exact mid) (fun fu τ ⟨_, F, _, _⟩ => by
      have H2 := H.fr F (by decide) (by decide) (by decide) (by decide)
      rw [f_X10_tellsTimes_L46, H2.2.2.1, if_pos ((nLe (by omega) (by omega)).mpr (Nat.le_refl _))]) (n - 27) N 27 τ0 (by omega) (by omega) ⟨by omega, F0, fun k hk => by
        show τ0.1 57 k = nI (TM d ar (den k)) ∧ TM d ar (den k) < 1000000
        rw [tm_leaf hT lfM_ok hk]; exact R0 k hk, fun k hk => by
        show τ0.1 59 k = nI (DP d ar (den k)).2 ∧ (DP d ar (den k)).2 < 1000000
        rw [dp_leaf hT lfM_ok hk]; exact S0 k hk⟩
  exact ⟨τ, e, F, R, S⟩
theorem mlast_ok (N : Nat) (hN : 2048 < N) {σ : Wd} {n w : Nat} {oz W : Nat → Nat} (hn : n ≤ 2048) (HO : MOG σ n w oz) (hW : RW σ 57 n W) : f_X10_lastOut N σ = some (nI (mxT (fun i => W (oz i)) (w + 1)), σ) := by
  unfold f_X10_lastOut
  have hw := HO.1
  obtain ⟨c, rfl, e⟩ := lp_up (g := fun fu i c => f_X10_lastOut_L4 N (f_X10_lastOut_J49 N) fu c (nI i) σ) (E := fun c => f_X10_lastOut_J49 N c σ) (P := fun i c => c = nI (mxT (fun i => W (oz i)) i)) (m := w + 1) (fun fu i c hi hP => by
      subst hP
      have hz := HO.2.2.2 i (by omega)
      obtain ⟨w1, w2⟩ := hW (oz i) hz
      have hlt := mxT_lt (f := fun i => W (oz i)) (b := 1000000) (by omega) i (fun j hj => (hW (oz j) (HO.2.2.2 j (by omega))).2)
      refine ⟨nI (mxT (fun i => W (oz i)) (i + 1)), rfl, ?_⟩
      rw [f_X10_lastOut_L4, HO.2.1, if_neg (fun z => by have := (nLe (by omega) (by omega)).mp z; omega), xld_n (by omega) (by omega), obind, HO.2.2.1 i hi, xld_n (by omega) (by omega), obind, w1, mxT]
      by_cases c1 : W (oz i) ≤ mxT (fun i => W (oz i)) i
      · rw [if_pos ((nLe (by omega) (by omega)).mpr c1), nI_1, Nat.max_eq_left c1]
      · rw [if_neg (fun z => c1 ((nLe (by omega) (by omega)).mp z)), obind, xld_n (by omega) (by omega), obind, w1, nI_1, Nat.max_eq_right (by omega)]) (fun fu c hP => by
      rw [f_X10_lastOut_L4, HO.2.1, if_pos ((nLe (by omega) (by omega)).mpr (Nat.le_refl _))]) (w + 1) N 0 0 (by omega) (by omega) rfl
  exact e
end
