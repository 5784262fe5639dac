/-! The used gates counted; the gates of both. -/
def cntB (f : Nat → Bool) (i : Nat) : Nat := ((List.range i).filter (fun j => decide (27 ≤ j) && f j)).length
theorem cntB_27 (f : Nat → Bool) : cntB f 27 = 0 := by
  unfold cntB
  rw [List.filter_eq_nil_iff.mpr]
  · rfl
  · intro a ha
    have := List.mem_range.mp ha
    simp only [Bool.and_eq_true, decide_eq_true_eq, not_and]
    omega
theorem cntB_s {f : Nat → Bool} {i : Nat} (hi : 27 ≤ i) : cntB f (i + 1) = cntB f i + (if f i = true then 1 else 0) := by
  unfold cntB
  rw [List.range_succ, List.filter_append, List.length_append]
  cases hf : f i <;> simp [hf, hi]
theorem cntB_le (f : Nat → Bool) (i : Nat) : cntB f i ≤ i := by
  unfold cntB
  have := List.length_filter_le (fun j => decide (27 ≤ j) && f j) (List.range i)
  rwa [List.length_range] at this
noncomputable def gcnt (O : Nat → Prop) (k : Option Nat) : Nat := cntP (fun s => 27 ≤ s ∧ (∃ t, O t ∧ sub s t) ∧ ∀ q, k = some q → tK s = q)
noncomputable def gboth (O Q : Nat → Prop) : Nat := cntP (fun s => 27 ≤ s ∧ (∃ t, O t ∧ sub s t) ∧ (∃ t, Q t ∧ sub s t))
def kindI : Option Nat → Int32
  | none => -1
  | some k => nI k
theorem used_loop (N : Nat) (KO : Int32 → Wd → Option (Int32 × Wd)) {σ : Wd} {n : Nat} {kd l r den : Nat → Nat} (hN : 512 < N) (H : GR σ n kd l r den) {u : Nat → Prop} (hu : BRow σ 21 n u) {k : Option Nat} (hk : ∀ q, k = some q → q < 4) {f : Nat → Bool} (hf : ∀ j, f j = true ↔ u j ∧ ∀ q, k = some q → kd j = q) :
    f_X2_usedGates_L5 N KO N (kindI k) 0 27 σ = KO (nI (cntB f n)) σ := by
  obtain ⟨hT, hn, h45, h18, -⟩ := id H
  have h27 := hT.1
  have key := lp_up (g := fun fu i c => f_X2_usedGates_L5 N KO fu (kindI k) c (nI i) σ) (E := fun c => KO c σ) (P := fun i c => 27 ≤ i ∧ c = nI (cntB f i)) (m := n) ?_ ?_ (n - 27) N 27 0 (by omega) (by omega) ⟨by omega, by rw [cntB_27]; rfl⟩
  · obtain ⟨c, ⟨-, rfl⟩, e⟩ := key
    exact e
  · rintro fu i c hi ⟨hi27, rfl⟩
    have hle : ¬ n ≤ i := by omega
    have hcb := cntB_le f i
    have hfi := hf i
    refine ⟨nI (cntB f (i + 1)), ⟨by omega, rfl⟩, ?_⟩
    rw [cntB_s hi27]
    rcases hu i (by omega) with ⟨u1, u2⟩ | ⟨u1, u2⟩
    · cases k with
      | none =>
        have : f i = true := hfi.mpr ⟨u1, fun q hq => by simp at hq⟩
        rw [if_pos this]
        simp (disch := omega) only [f_X2_usedGates_L5, h45, nLe, hle, if_false, xld_n, obind, u2, show ¬ (1 : Int32) = 0 by decide, kindI, if_true, nI_1]
      | some q =>
        have hq := hk q rfl
        have hkd := (hT.2.2.1 i hi27 (by omega)).1
        have hm1 : ¬ nI q = -1 := by
          have : q = 0 ∨ q = 1 ∨ q = 2 ∨ q = 3 := by omega
          rcases this with rfl | rfl | rfl | rfl <;> decide
        by_cases hkq : kd i = q
        · have : f i = true := hfi.mpr ⟨u1, fun p hp => by rw [← Option.some.inj hp]; exact hkq⟩
          rw [if_pos this]
          simp (disch := omega) only [f_X2_usedGates_L5, h45, nLe, hle, if_false, xld_n, obind, u2, show ¬ (1 : Int32) = 0 by decide, kindI, if_true, nI_1, hm1, h18 i hi27 (by omega), nEq, hkq]
        · have : ¬ f i = true := fun z => hkq ((hfi.mp z).2 q rfl)
          rw [if_neg this]
          simp (disch := omega) only [f_X2_usedGates_L5, h45, nLe, hle, if_false, xld_n, obind, u2, show ¬ (1 : Int32) = 0 by decide, kindI, nI_1, hm1, h18 i hi27 (by omega), nEq, hkq, Nat.add_zero]
    · have : ¬ f i = true := fun z => u1 (hfi.mp z).1
      rw [if_neg this]
      simp (disch := omega) only [f_X2_usedGates_L5, h45, nLe, hle, if_false, xld_n, obind, u2, if_true, nI_1, Nat.add_zero]
  · intro fu c hP
    simp (disch := omega) only [f_X2_usedGates_L5, h45, nLe, Nat.le_refl, if_true]
theorem gcnt_eq {σ : Wd} {n w : Nat} {kd l r den oz : Nat → Nat} (H : GR σ n kd l r den) (HO : OG σ n den w oz) {k : Option Nat} {f : Nat → Bool} (hf : ∀ j, f j = true ↔ (∃ o, o < n ∧ (∃ i, i < w + 1 ∧ o = oz i) ∧ sub (den j) (den o)) ∧ ∀ q, k = some q → kd j = q) : gcnt (fun t => ∃ i, i ≤ w ∧ t = den (oz i)) k = cntB f n := by
  have hT := H.1
  have hoz := HO.2.2.2.2
  unfold gcnt cntB
  refine cnt_net hT lfC_ok ?_ ?_
  · rintro s ⟨s1, ⟨t, ⟨i, i1, rfl⟩, s2⟩, -⟩
    have hz := hoz i i1
    obtain ⟨j, j1, rfl⟩ := sub_den hT lfC_ok (oz i) hz s s2
    exact ⟨j, (hT.den_ge lfC_ok (by omega)).mp s1, by omega, rfl⟩
  · intro j j1 j2
    rw [hf]
    obtain ⟨a1, -, -, a4⟩ := hT.2.2.1 j j1 j2
    have hk2 : tK (den j) = kd j := by rw [a4, tK_mk _ _ a1]
    constructor
    · rintro ⟨⟨o, o1, ⟨i, i1, rfl⟩, o3⟩, o4⟩
      exact ⟨(hT.den_ge lfC_ok j2).mpr j1, ⟨_, ⟨i, by omega, rfl⟩, o3⟩, fun q hq => by rw [hk2]; exact o4 q hq⟩
    · rintro ⟨-, ⟨t, ⟨i, i1, rfl⟩, o3⟩, o4⟩
      exact ⟨⟨oz i, hoz i i1, ⟨i, by omega, rfl⟩, o3⟩, fun q hq => by rw [← hk2]; exact o4 q hq⟩
theorem usedGates_ok (N : Nat) {σ : Wd} {n w : Nat} {kd l r den oz : Nat → Nat} (hN : 512 < N) (H : GR σ n kd l r den) (HO : OG σ n den w oz) (hu : BRow σ 21 n (fun j => ∃ o, o < n ∧ (∃ i, i < w + 1 ∧ o = oz i) ∧ sub (den j) (den o))) {k : Option Nat} (hk : ∀ q, k = some q → q < 4) :
    f_X2_usedGates N (kindI k) σ = some (nI (gcnt (fun t => ∃ i, i ≤ w ∧ t = den (oz i)) k), σ) ∧ gcnt (fun t => ∃ i, i ≤ w ∧ t = den (oz i)) k ≤ 512 := by
  classical
  have hE := gcnt_eq H HO (k := k) (f := fun j => decide ((∃ o, o < n ∧ (∃ i, i < w + 1 ∧ o = oz i) ∧ sub (den j) (den o)) ∧ ∀ q, k = some q → kd j = q)) (fun j => decide_eq_true_iff)
  rw [hE]
  refine ⟨?_, Nat.le_trans (cntB_le _ n) H.2.1⟩
  unfold f_X2_usedGates
  rw [used_loop N _ hN H hu hk (f := fun j => decide ((∃ o, o < n ∧ (∃ i, i < w + 1 ∧ o = oz i) ∧ sub (den j) (den o)) ∧ ∀ q, k = some q → kd j = q)) (fun j => decide_eq_true_iff)]
  rfl
/-- the terms of the outcomes -/
def OUT (bs : Blk) (t : Nat) : Prop := ∃ i, i ≤ wid bs ∧ t = outT (nets bs) i
theorem nets_1 (bs : Blk) : (nets bs).1 = wid bs := by unfold nets; rw [nets_w]; show 0 + _ = _; omega
theorem OUT_eq {bs : Blk} {den oz : Nat → Nat} (h : ∀ i, i ≤ (nets bs).1 → den (oz i) = outT (nets bs) i) : (fun t => ∃ i, i ≤ (nets bs).1 ∧ t = den (oz i)) = OUT bs := by
  funext t
  unfold OUT
  rw [← nets_1]
  exact propext ⟨fun ⟨i, a, b⟩ => ⟨i, a, by rw [b, h i a]⟩, fun ⟨i, a, b⟩ => ⟨i, a, by rw [b, h i a]⟩⟩
theorem CLS.fr {σ τ : Wd} {ks : List Nat} {n : Nat} {den : Nat → Nat} {st : NSt} (H : CLS σ n den st) (F : Fr ks σ τ) (h : ∀ a, a ∈ [4, 18, 19, 20, 22, 23, 24] → a ∉ ks) : CLS τ n den st := by
  obtain ⟨h1, h2, h3, h4⟩ := H
  exact ⟨h1.cong (fun a ha b => F.i (h a (by rcases ha with rfl | rfl | rfl | rfl | rfl <;> simp)) b) (F.i (h 4 (by simp)) 5), by rw [F.i (h 4 (by simp))]; exact h2, h3.up (Nat.le_refl _) (fun _ _ => rfl) (F.i (h 4 (by simp)) 7), fun i hi => (h4 i hi).up (Nat.le_refl _) (fun _ _ => rfl) (F.i (h 22 (by simp)) i)⟩
/-- marked and counted, over a net that was laid -/
theorem gates_cls (N : Nat) (hN : 512 < N) {σ : Wd} {n : Nat} {den : Nat → Nat} {bs : Blk} (H : CLS σ n den (nets bs)) (hw : wid bs ≤ 12) : ∃ τ, f_X2_markUsed N σ = some τ ∧ Fr [21] σ τ ∧ ∀ k : Option Nat, (∀ q, k = some q → q < 4) → f_X2_usedGates N (kindI k) τ = some (nI (gcnt (OUT bs) k), τ) ∧ gcnt (OUT bs) k ≤ 512 := by
  obtain ⟨kd, l, r, hG⟩ := H.1.gr
  obtain ⟨oz, hO, hoz⟩ := H.og (by rw [nets_1]; exact hw)
  obtain ⟨τ, e, F, hB⟩ := markUsed_ok N hN hG hO
  refine ⟨τ, e, F, fun k hk => ?_⟩
  have := usedGates_ok N hN (hG.fr F (by decide) (by decide) (by decide) (by decide)) (hO.fr F (by decide) (by decide)) hB hk
  rw [OUT_eq hoz] at this
  exact this
theorem both_copy (N : Nat) (KO : Int64 → Int32 → Wd → Option (Int32 × Wd)) {σ : Wd} {n : Nat} {u : Nat → Prop} (hN : 512 < N) (h27 : 27 ≤ n) (hn : n ≤ 512) (hu : BRow σ 21 n u) (x : Int64) : ∃ τ, (Fr [25] σ τ ∧ ∀ j, 27 ≤ j → j < n → τ.1 25 j = σ.1 21 j) ∧ f_X2_gatesOfBoth_L23 N KO N x (nI n) 27 σ = KO x (nI n) τ := by
  refine lp_up (g := fun fu i σ => f_X2_gatesOfBoth_L23 N KO fu x (nI n) (nI i) σ) (E := fun σ => KO x (nI n) σ) (P := fun i τ => Fr [25] σ τ ∧ ∀ j, 27 ≤ j → j < i → τ.1 25 j = σ.1 21 j) (m := n) ?_ ?_ (n - 27) N 27 σ (by omega) (by omega) ⟨Fr.rf _ σ, fun j h1 h2 => by omega⟩
  · intro fu i τ hi hP
    have hle : ¬ n ≤ i := by omega
    have e := hP.1.i (a := 21) (by decide) i
    have hv : σ.1 21 i = 0 ∨ σ.1 21 i = 1 := by rcases hu i hi with ⟨-, q⟩ | ⟨-, q⟩ <;> simp [q]
    refine ⟨sF τ 25 i (σ.1 21 i), ⟨hP.1.F (by decide), fun j h1 h2 => ?_⟩, ?_⟩
    · by_cases hji : j = i
      · subst hji; exact sF_eq
      · rw [sF_nb hji]; exact hP.2 j h1 (by omega)
    · simp (disch := omega) only [f_X2_gatesOfBoth_L23, nLe, hle, if_false, xld_n, obind, e, xstZ_n hv, nI_1]
  · intro fu τ hP
    simp (disch := omega) only [f_X2_gatesOfBoth_L23, nLe, Nat.le_refl, if_true]
theorem both_count (N : Nat) (KO : Int32 → Wd → Option (Int32 × Wd)) {σ : Wd} {n : Nat} {u v : Nat → Prop} (hN : 512 < N) (h27 : 27 ≤ n) (hn : n ≤ 512) (hu : BRow σ 21 n u) (hv : ∀ j, 27 ≤ j → j < n → (v j ∧ σ.1 25 j = 1) ∨ (¬ v j ∧ σ.1 25 j = 0)) {f : Nat → Bool} (hf : ∀ j, f j = true ↔ u j ∧ v j) :
    f_X2_gatesOfBoth_L66 N KO N (nI n) 0 27 σ = KO (nI (cntB f n)) σ := by
  have key := lp_up (g := fun fu i c => f_X2_gatesOfBoth_L66 N KO fu (nI n) c (nI i) σ) (E := fun c => KO c σ) (P := fun i c => 27 ≤ i ∧ c = nI (cntB f i)) (m := n) ?_ ?_ (n - 27) N 27 0 (by omega) (by omega) ⟨by omega, by rw [cntB_27]; rfl⟩
  · obtain ⟨c, ⟨-, rfl⟩, e⟩ := key
    exact e
  · rintro fu i c hi ⟨hi27, rfl⟩
    have hle : ¬ n ≤ i := by omega
    have hfi := hf i
    refine ⟨nI (cntB f (i + 1)), ⟨by omega, rfl⟩, ?_⟩
    rw [cntB_s hi27]
    rcases hu i (by omega) with ⟨u1, u2⟩ | ⟨u1, u2⟩
    · rcases hv i hi27 hi with ⟨v1, v2⟩ | ⟨v1, v2⟩
      · rw [if_pos (hfi.mpr ⟨u1, v1⟩)]
        simp (disch := omega) only [f_X2_gatesOfBoth_L66, nLe, hle, if_false, xld_n, obind, u2, v2, show ¬ (1 : Int32) = 0 by decide, nI_1]
      · rw [if_neg (fun z => v1 (hfi.mp z).2)]
        simp (disch := omega) only [f_X2_gatesOfBoth_L66, nLe, hle, if_false, xld_n, obind, u2, v2, show ¬ (1 : Int32) = 0 by decide, if_true, nI_1, Nat.add_zero]
    · rw [if_neg (fun z => u1 (hfi.mp z).1)]
      simp (disch := omega) only [f_X2_gatesOfBoth_L66, nLe, hle, if_false, xld_n, obind, u2, if_true, nI_1, Nat.add_zero]
  · intro fu c hP
    simp (disch := omega) only [f_X2_gatesOfBoth_L66, nLe, Nat.le_refl, if_true]
/-- cells of the net -/
def netC : List Nat := [4, 18, 19, 20, 21, 22, 23, 24, 25, 26, 27, 28, 29]
theorem both_ok (N : Nat) (hN : 512 < N) {a b : Blk} (A : VB a) (B : VB b) (σ : Wd) : ∃ τ, f_X2_gatesOfBoth N (lN (bcode a)) (lN (bcode b)) σ = some (nI (gboth (OUT a) (OUT b)), τ) ∧ Fr netC σ τ := by
  classical
  have ha := A.2.2
  have hb := B.2.2
  unfold f_X2_gatesOfBoth
  obtain ⟨τ0, e0, C0, F0⟩ := clear_ok N (by omega) σ
  rw [e0, obind]
  obtain ⟨τ1, n1, d1, e1, C1, X1, F1⟩ := build_ok N (by omega) A C0.1 (by omega)
  rw [e1, obind]
  obtain ⟨kd, l, r, G1⟩ := C1.1.gr
  obtain ⟨oz, O1, z1⟩ := C1.og (by rw [nets_1]; exact ha)
  obtain ⟨τ2, e2, F2, B2⟩ := markUsed_ok N hN G1 O1
  have C2 := C1.fr F2 (by decide)
  have G2 := G1.fr F2 (by decide) (by decide) (by decide) (by decide)
  rw [e2, obind, G2.2.2.1]
  have h27 := G1.1.1
  have hX1 := X1.2.2.1
  obtain ⟨τ3, ⟨F3, c3⟩, e3⟩ := both_copy N (f_X2_gatesOfBoth_J50 N) hN h27 G1.2.1 B2 (lN (bcode b))
  rw [e3]
  unfold f_X2_gatesOfBoth_J50
  have C3 := C2.fr F3 (by decide)
  obtain ⟨τ4, n4, d4, e4, C4, X4, F4⟩ := build_ok N (by omega) B C3.1 (by omega)
  rw [e4, obind]
  obtain ⟨kd4, l4, r4, G4⟩ := C4.1.gr
  obtain ⟨oz4, O4, z4⟩ := C4.og (by rw [nets_1]; exact hb)
  obtain ⟨τ5, e5, F5, B5⟩ := markUsed_ok N hN G4 O4
  rw [e5, obind]
  have hnn := X4.2.1
  have f4 := F4.fr
  rw [both_count N _ hN h27 G1.2.1 (fun j hj => B5 j (by omega)) (v := fun j => ∃ o, o < n1 ∧ (∃ i, i < (nets a).1 + 1 ∧ o = oz i) ∧ sub (d1 j) (d1 o)) (fun j j1 j2 => by
    have := B2 j j2
    rw [F5.i (by decide), f4.i (by decide), c3 j j1 j2]
    exact this) (f := fun j => decide ((∃ o, o < n4 ∧ (∃ i, i < (nets b).1 + 1 ∧ o = oz4 i) ∧ sub (d4 j) (d4 o)) ∧ ∃ o, o < n1 ∧ (∃ i, i < (nets a).1 + 1 ∧ o = oz i) ∧ sub (d1 j) (d1 o))) (fun j => decide_eq_true_iff)]
  unfold f_X2_gatesOfBoth_J102
  have hfr : Fr netC σ τ5 := ((((F0.fr.mo (by decide)).tr (F1.fr.mo (by decide))).tr (F2.mo (by decide))).tr (F3.mo (by decide))).tr ((f4.mo (by decide)).tr (F5.mo (by decide)))
  refine ⟨τ5, ?_, hfr⟩
  congr 3
  rw [← OUT_eq z1, ← OUT_eq z4]
  unfold gboth cntB
  have hoz := O1.2.2.2.2
  have hoz4 := O4.2.2.2.2
  refine (cnt_net G1.1 lfC_ok ?_ ?_).symm
  · rintro s ⟨s1, ⟨t, ⟨i, i1, rfl⟩, s2⟩, -⟩
    have hz := hoz i i1
    obtain ⟨j, j1, rfl⟩ := sub_den G1.1 lfC_ok (oz i) hz s s2
    exact ⟨j, (G1.1.den_ge lfC_ok (by omega)).mp s1, by omega, rfl⟩
  · intro j j1 j2
    rw [decide_eq_true_iff]
    have hd := X4.2.2.2 j j2
    constructor
    · rintro ⟨⟨o, o1, ⟨i, i1, rfl⟩, o3⟩, ⟨p, p1, ⟨q, q1, rfl⟩, p3⟩⟩
      exact ⟨(G1.1.den_ge lfC_ok j2).mpr j1, ⟨_, ⟨q, by omega, rfl⟩, p3⟩, ⟨_, ⟨i, by omega, rfl⟩, by rw [← hd]; exact o3⟩⟩
    · rintro ⟨-, ⟨t, ⟨i, i1, rfl⟩, o3⟩, ⟨t2, ⟨q, q1, rfl⟩, p3⟩⟩
      exact ⟨⟨oz4 q, hoz4 q q1, ⟨q, by omega, rfl⟩, by rw [hd]; exact p3⟩, ⟨oz i, hoz i i1, ⟨i, by omega, rfl⟩, o3⟩⟩
