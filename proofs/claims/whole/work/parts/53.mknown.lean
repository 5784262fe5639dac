section
/-! Plans and what is known: the reference. -/
def MPl (σ : Wd) (P : Pl) : Prop := σ.1 41 4 = nI P.length ∧ ∀ i p, P[i]? = some p → σ.1 43 i = nI p.1.length ∧ NRow σ 42 (4 * i) p.1 ∧ σ.1 45 i = nI p.2.length ∧ MRow σ 44 (8 * i) p.2
theorem NRow.fr {σ τ : Wd} {ks fs : List Nat} {K base : Nat} {xs : List Nat} (H : NRow σ K base xs) (F : FrM ks fs σ τ) (h : K ∉ ks) (h4 : K ≠ 41) : NRow τ K base xs := fun i b hb => by rw [F.i h h4]; exact H i b hb
theorem MPl.fr {σ τ : Wd} {ks fs : List Nat} {P : Pl} (h : MPl σ P) (F : FrM ks fs σ τ) (h4 : 4 ∉ fs) (h42 : 42 ∉ ks) (h43 : 43 ∉ ks) (h44 : 44 ∉ ks) (h45 : 45 ∉ ks) : MPl τ P :=
  ⟨by rw [F.m h4]; exact h.1, fun i p hp => by
    obtain ⟨a, b, c, d⟩ := h.2 i p hp
    exact ⟨by rw [F.i h43 (by decide)]; exact a, b.fr F h42 (by decide), by rw [F.i h45 (by decide)]; exact c, d.fr F h44 (by decide)⟩⟩
theorem isPlan_y (N : Nat) {σ : Wd} {P : Pl} (h : MPl σ P) (hP : P.length ≤ 12) {n : Nat} (hn : n < P.length) : f_X10_isPlan N (nI n) σ = some (1, σ) := by
  unfold f_X10_isPlan
  rw [h.1, show nI P.length - 1 = nI (P.length - 1) from pk_sub (b := 1) (by omega), in_y N (lo := 0) (hi := nI (P.length - 1)) (by decide) rfl ⟨nI_pos' (by omega), (nLe (by omega) (by omega)).mpr (by omega)⟩, obind]
  rfl
theorem isPlan_n (N : Nat) {σ : Wd} {P : Pl} (h : MPl σ P) (hP : P.length ≤ 12) {x : Int32} (hx : x < 0 ∨ nI P.length ≤ x) : f_X10_isPlan N x σ = some (0, σ) := by
  unfold f_X10_isPlan
  rw [h.1, in_n N (lo := 0) (hi := nI P.length - 1) (by decide) rfl (fun z => by
    rcases hx with q | q
    · exact nGe q z.1
    · have h1 := z.2
      rw [fa_le] at q h1
      rw [nI_toInt (by omega)] at q
      by_cases h0 : P.length = 0
      · rw [h0, show (nI 0 - 1 : Int32).toInt = -1 by decide] at h1
        have h2 := z.1
        rw [fa_le, show (0 : Int32).toInt = 0 by decide] at h2
        omega
      · rw [show nI P.length - 1 = nI (P.length - 1) from pk_sub (b := 1) (by omega), nI_toInt (by omega)] at h1
        omega), obind]
  rfl
theorem pix_iff {P : Pl} (W : WP P) {nm : List Nat} {i : Nat} {p : List Nat × Blk} (hp : P[i]? = some p) : p.1 = nm ↔ i = pix P nm := by
  constructor
  · intro e
    by_cases hc : pix P nm < P.length
    · obtain ⟨b, hb⟩ := pix_y hc
      have hi := (List.getElem?_eq_some_iff.mp hp).1
      have h1 : (P.map Prod.fst)[i]? = some nm := by rw [List.getElem?_map, hp, ← e]; rfl
      have h2 : (P.map Prod.fst)[pix P nm]? = some nm := by rw [List.getElem?_map, hb]; rfl
      exact (List.getElem?_inj (by rw [List.length_map]; exact hi) W.2.2).mp (h1.trans h2.symm)
    · exact absurd e (pix_nm hc p (List.mem_of_getElem? hp))
  · intro e
    subst e
    obtain ⟨b, hb⟩ := pix_y (List.getElem?_eq_some_iff.mp hp).1
    rw [hb] at hp
    cases hp; rfl
theorem planNamed_ok (N : Nat) (hN : 2048 < N) {σ : Wd} {P : Pl} (M : MPl σ P) (W : WP P) {nm : List Nat} (A : WN nm) (h9 : σ.1 41 9 = nI nm.length) (h47 : NRow σ 47 0 nm) : f_X10_planNamed N σ = some (if pix P nm < P.length then nI (pix P nm) else -2, σ) := by
  have hP := W.1
  have hA := A.2.1
  unfold f_X10_planNamed
  obtain ⟨x, rfl, e⟩ := lp_up (g := fun fu i x => f_X10_planNamed_L5 N (f_X10_planNamed_J53 N) fu x (nI i) σ) (E := fun x => f_X10_planNamed_J53 N x σ) (P := fun i x => x = if pix P nm < i then nI (pix P nm) else -2) (m := P.length) (fun fu i x hi hx => by
      have hp : P[i]? = some P[i] := List.getElem?_eq_getElem hi
      obtain ⟨m1, m2, m3, m4⟩ := M.2 i _ hp
      have B := (W.at hp).1
      have hB := B.2.1
      have hal := areAlike_ok N hN m2 h47 (L0 := 48) (L3 := 4) (by omega) (by omega) (by decide) (by decide)
      refine ⟨_, rfl, ?_⟩
      rw [f_X10_planNamed_L5, M.1, if_neg (fun z => by have := (nLe (by omega) (by omega)).mp z; omega), xld_n (by omega) (by omega), obind, m1, h9, show (4 : Int32) * nI i = nI (4 * i) from nMulL 4 i, show (0 : Int32) = nI 0 from rfl, hal, obind]
      dsimp only
      have hiff := pix_iff W hp (nm := nm)
      by_cases he : P[i].1 = nm
      · rw [if_pos he, if_neg (show ¬ (1 : Int32) = nI 0 by decide), nI_1, if_pos (by have := hiff.mp he; omega), ← hiff.mp he]
      · rw [if_neg he, if_pos (show (0 : Int32) = nI 0 from rfl), nI_1, hx]
        have hne : i ≠ pix P nm := fun z => he (hiff.mpr z)
        by_cases hc : pix P nm < i
        · rw [if_pos hc, if_pos (by omega)]
        · rw [if_neg hc, if_neg (by omega)]) (fun fu x hx => by
      rw [f_X10_planNamed_L5, M.1, if_pos ((nLe (by omega) (by omega)).mpr (Nat.le_refl _))]) P.length N 0 (-2) (by omega) (by omega) (by rw [if_neg (Nat.not_lt_zero _)])
  exact e
theorem getD_some {xs : List Nat} {i : Nat} (h : i < xs.length) : xs[i]? = some (xs.getD i 0) := by
  rw [List.getD_eq_getElem?_getD, List.getElem?_eq_getElem h]; rfl
theorem tellP_get {P : Pl} {nm : List Nat} {bs : Blk} {i : Nat} {p : List Nat × Blk} (h : (tellP P nm bs)[i]? = some p) : (i = pix P nm ∧ p = (nm, bs)) ∨ (i ≠ pix P nm ∧ P[i]? = some p) := by
  have hle := pix_le P nm
  unfold tellP at h
  by_cases hc : pix P nm < P.length
  · rw [if_pos hc, getE_set hc] at h
    by_cases hi : i = pix P nm
    · rw [if_pos hi] at h; cases h; exact Or.inl ⟨hi, rfl⟩
    · rw [if_neg hi] at h; exact Or.inr ⟨hi, h⟩
  · rw [if_neg hc, getE_app] at h
    by_cases hi : i = P.length
    · rw [if_pos hi] at h; cases h; exact Or.inl ⟨by omega, rfl⟩
    · rw [if_neg hi] at h; exact Or.inr ⟨by omega, h⟩
theorem becomesJ_ok (N : Nat) (hN : 2048 < N) {σ : Wd} {P : Pl} (M : ∀ i p, P[i]? = some p → σ.1 43 i = nI p.1.length ∧ NRow σ 42 (4 * i) p.1 ∧ σ.1 45 i = nI p.2.length ∧ MRow σ 44 (8 * i) p.2) (W : WP P) {nm : List Nat} (A : WN nm) (h9 : σ.1 41 9 = nI nm.length) (h47 : NRow σ 47 0 nm) {K : Nat} (hK : K = 48 ∨ K = 64) {bs : Blk} (V : VB bs) (hR : MRow σ K 0 bs) (h4 : σ.1 41 4 = nI (tellP P nm bs).length) (hl : pix P nm < 12) :
    ∃ τ, f_X10_becomes_J36 N K 8 (nI bs.length) (nI (pix P nm)) σ = some (nI (pix P nm), τ) ∧ MPl τ (tellP P nm bs) ∧ FrM [42, 43, 44, 45] [4] σ τ := by
  have hA := A.2.1
  have hV := V.1
  generalize hp : pix P nm = p at hl ⊢
  unfold f_X10_becomes_J36
  rw [xst_n (by omega) (by omega), obind, h9]
  obtain ⟨τ1, ⟨F1, q1, q2⟩, e1⟩ := lp_up (g := fun fu i s => f_X10_becomes_L49 N K 8 (f_X10_becomes_J82 N K 8) fu (nI bs.length) (nI p) (nI i) s) (E := fun s => f_X10_becomes_J82 N K 8 (nI bs.length) (nI p) s) (P := fun i τ => FrM [42] [] (sF σ 43 p (nI nm.length)) τ ∧ (∀ j, j < i → τ.1 42 (4 * p + j) = nI (nm.getD j 0)) ∧ ∀ q, (q < 4 * p ∨ 4 * p + 4 ≤ q) → τ.1 42 q = σ.1 42 q) (m := nm.length) (fun fu i τ hi ⟨F, q1, q2⟩ => by
      have hx := h47 i _ (getD_some hi)
      rw [Nat.zero_add] at hx
      refine ⟨sF τ 42 (4 * p + i) (nI (nm.getD i 0)), ⟨F.F (by decide) (by decide), fun j hj => ?_, fun q hq => ?_⟩, ?_⟩
      · by_cases hji : j = i
        · rw [hji, sF_eq]
        · rw [sF_nb (by omega)]; exact q1 j (by omega)
      · rw [sF_nb (by omega)]; exact q2 q hq
      · rw [f_X10_becomes_L49, F.m (by simp), sF_ne (show 41 ≠ 43 by decide), h9, if_neg (fun z => by have := (nLe (by omega) (by omega)).mp z; omega), xld_n (by omega) (by omega), obind, F.i (by decide) (by decide), sF_ne (show 47 ≠ 43 by decide), hx.1, show (4 : Int32) * nI p = nI (4 * p) from nMulL 4 p, nI_add, xst_n (by omega) (by omega), obind, nI_1]) (fun fu τ ⟨F, q1, q2⟩ => by
      rw [f_X10_becomes_L49, F.m (by simp), sF_ne (show 41 ≠ 43 by decide), h9, if_pos ((nLe (by omega) (by omega)).mpr (Nat.le_refl _))]) nm.length N 0 (sF σ 43 p (nI nm.length)) (by omega) (by omega) ⟨FrM.rf _ _ _, fun j hj => absurd hj (Nat.not_lt_zero j), fun q _ => sF_ne (by decide)⟩
  have e1' : f_X10_becomes_L49 N K 8 (f_X10_becomes_J82 N K 8) N (nI bs.length) (nI p) 0 (sF σ 43 p (nI nm.length)) = f_X10_becomes_J82 N K 8 (nI bs.length) (nI p) τ1 := e1
  rw [e1']
  unfold f_X10_becomes_J82
  rw [xst_n (by omega) (by omega), obind]
  have F2 : FrM [42, 43, 44, 45] [4] σ (sF τ1 45 p (nI bs.length)) := (((FrM.rf _ _ σ).F (k := 43) (by decide) (by decide)).tr (F1.mo (by decide) (by decide))).F (by decide) (by decide)
  obtain ⟨τ2, ⟨F3, r1, r2⟩, e2⟩ := lp_up (g := fun fu i s => f_X10_becomes_L92 N K 8 (f_X10_becomes_J120 N K 8) fu (nI bs.length) (nI p) (nI i) s) (E := fun s => f_X10_becomes_J120 N K 8 (nI p) s) (P := fun i τ => FrM [44] [] (sF τ1 45 p (nI bs.length)) τ ∧ (∀ j b, j < i → bs[j]? = some b → τ.1 44 (8 * p + j) = nI (10 * b.1 + b.2)) ∧ ∀ q, (q < 8 * p ∨ 8 * p + 8 ≤ q) → τ.1 44 q = σ.1 44 q) (m := bs.length) (fun fu i τ hi ⟨F, r1, r2⟩ => by
      have hb : bs[i]? = some bs[i] := List.getElem?_eq_getElem hi
      have hx := hR i _ hb
      rw [Nat.zero_add] at hx
      have hKk : τ.1 K i = nI (10 * bs[i].1 + bs[i].2) := by
        rw [F.i (by simp; omega) (by omega), F2.i (by simp; omega) (by omega)]; exact hx
      refine ⟨sF τ 44 (8 * p + i) (nI (10 * bs[i].1 + bs[i].2)), ⟨F.F (by decide) (by decide), fun j b hj hb2 => ?_, fun q hq => ?_⟩, ?_⟩
      · by_cases hji : j = i
        · subst hji
          rw [hb] at hb2; cases hb2
          rw [sF_eq]
        · rw [sF_nb (by omega)]; exact r1 j b (by omega) hb2
      · rw [sF_nb (by omega)]; exact r2 q hq
      · rw [f_X10_becomes_L92, if_neg (fun z => by have := (nLe (by omega) (by omega)).mp z; omega), xld_n (by omega) (by omega), obind, hKk, show (8 : Int32) * nI p = nI (8 * p) from nMulL 8 p, nI_add, xst_n (by omega) (by omega), obind, nI_1]) (fun fu τ hP => by
      rw [f_X10_becomes_L92, if_pos ((nLe (by omega) (by omega)).mpr (Nat.le_refl _))]) bs.length N 0 (sF τ1 45 p (nI bs.length)) (by omega) (by omega) ⟨FrM.rf _ _ _, fun j b hj => absurd hj (Nat.not_lt_zero j), fun q _ => by rw [sF_ne (by decide), F1.i (by decide) (by decide), sF_ne (by decide)]⟩
  refine ⟨τ2, e2, ⟨?_, fun i p' hp' => ?_⟩, F2.tr (F3.mo (by decide) (by decide))⟩
  · rw [F3.m (by simp), sF_ne (by decide), F1.m (by simp), sF_ne (by decide)]; exact h4
  · have c43 : ∀ i, τ2.1 43 i = if i = p then nI nm.length else σ.1 43 i := fun i => by
      rw [F3.i (by decide) (by decide), sF_ne (by decide), F1.i (by decide) (by decide), sF_1, if_pos rfl]
    have c45 : ∀ i, τ2.1 45 i = if i = p then nI bs.length else σ.1 45 i := fun i => by
      rw [F3.i (by decide) (by decide), sF_1, if_pos rfl, F1.i (by decide) (by decide), sF_ne (by decide)]
    have c42 : ∀ q, τ2.1 42 q = τ1.1 42 q := fun q => by rw [F3.i (by decide) (by decide), sF_ne (by decide)]
    rcases tellP_get hp' with ⟨g1, g2⟩ | ⟨g1, g2⟩
    · rw [hp] at g1
      subst g1; subst g2
      refine ⟨by rw [c43, if_pos rfl], fun j x hx => ?_, by rw [c45, if_pos rfl], fun j b hb => r1 j b (List.getElem?_eq_some_iff.mp hb).1 hb⟩
      have hj := (List.getElem?_eq_some_iff.mp hx).1
      have hj2 : nm[j]? = some x := hx
      rw [getD_some hj] at hj2
      have hx2 : nm.getD j 0 = x := Option.some.inj hj2
      have := (A.getD (i := j)).1 hj
      rw [c42, q1 j hj, hx2]
      exact ⟨rfl, by omega⟩
    · rw [hp] at g1
      obtain ⟨m1, m2, m3, m4⟩ := M i p' g2
      have B := W.at g2
      have b1 := B.1.2.1
      have b2 := B.2.1.1
      refine ⟨by rw [c43, if_neg g1]; exact m1, fun j x hx => ?_, by rw [c45, if_neg g1]; exact m3, fun j b hb => ?_⟩
      · have hj := (List.getElem?_eq_some_iff.mp hx).1
        rw [c42, q2 (4 * i + j) (by omega)]
        exact m2 j x hx
      · have hj := (List.getElem?_eq_some_iff.mp hb).1
        rw [r2 (8 * i + j) (by omega)]
        exact m4 j b hb
theorem becomes_ok (N : Nat) (hN : 2048 < N) {σ : Wd} {P : Pl} (M : MPl σ P) (W : WP P) {nm : List Nat} (A : WN nm) (h9 : σ.1 41 9 = nI nm.length) (h47 : NRow σ 47 0 nm) {K : Nat} (hK : K = 48 ∨ K = 64) {bs : Blk} (V : VB bs) (hR : MRow σ K 0 bs) :
    ((pix P nm < P.length ∨ P.length < 12) → ∃ τ, f_X10_becomes N K 8 (nI bs.length) σ = some (nI (pix P nm), τ) ∧ MPl τ (tellP P nm bs) ∧ FrM [42, 43, 44, 45] [4] σ τ) ∧ (¬ (pix P nm < P.length ∨ P.length < 12) → f_X10_becomes N K 8 (nI bs.length) σ = some (-3, σ)) := by
  have hP := W.1
  have hle := pix_le P nm
  unfold f_X10_becomes
  rw [planNamed_ok N hN M W A h9 h47, obind]
  dsimp only
  by_cases hc : pix P nm < P.length
  · refine ⟨fun _ => ?_, fun z => absurd (Or.inl hc) z⟩
    rw [if_pos hc, if_pos (nI_pos' (by omega))]
    refine becomesJ_ok N hN M.2 W A h9 h47 hK V hR ?_ (by omega)
    unfold tellP
    rw [if_pos hc, List.length_set]; exact M.1
  · rw [if_neg hc, if_neg (show ¬ (0 : Int32) ≤ -2 by decide), M.1]
    by_cases h12 : P.length = 12
    · refine ⟨fun z => by omega, fun _ => ?_⟩
      rw [if_pos (show nI P.length = 12 by rw [h12]; rfl)]
    · refine ⟨fun _ => ?_, fun z => absurd (Or.inr (by omega)) z⟩
      rw [if_neg (show ¬ nI P.length = 12 from neN (b := 12) (by omega) (by omega) h12), nI_1]
      have F0 : FrM [42, 43, 44, 45] [4] σ (sF σ 41 4 (nI (P.length + 1))) := (FrM.rf _ _ σ).D (by decide)
      have hpe : P.length = pix P nm := by omega
      obtain ⟨τ, e, M2, F⟩ := becomesJ_ok N hN (σ := sF σ 41 4 (nI (P.length + 1))) (P := P) (fun i p hp => by
        obtain ⟨a, b, c, d⟩ := M.2 i p hp
        exact ⟨by rw [sF_ne (by decide)]; exact a, fun j x hx => by rw [sF_ne (by decide)]; exact b j x hx, by rw [sF_ne (by decide)]; exact c, fun j x hx => by rw [sF_ne (by decide)]; exact d j x hx⟩) W A (by rw [sF_nb (by decide)]; exact h9) (fun j x hx => by rw [sF_ne (by decide)]; exact h47 j x hx) hK V (fun j x hx => by rw [sF_ne (by omega)]; exact hR j x hx) (by
        rw [sF_eq]
        unfold tellP
        rw [if_neg hc, List.length_append]; rfl) (by omega)
      rw [← hpe] at e ⊢
      exact ⟨τ, e, M2, F0.tr F⟩
end
