section
/-! Plans forgotten, blocks known: the reference. -/
theorem shfB {α : Type} {f g f' : Nat → α} {b n i : Nat} (hn : n ≤ i) (h : ∀ q, g q = f (if b * n ≤ q ∧ q < b * i then q + b else q)) (h' : ∀ q, f' q = if b * i ≤ q ∧ q < b * i + b then g (q + b) else g q) : ∀ q, f' q = f (if b * n ≤ q ∧ q < b * (i + 1) then q + b else q) := fun q => by
  have hm : b * n ≤ b * i := Nat.mul_le_mul_left b hn
  rw [h' q, Nat.mul_succ]
  generalize b * n = A at *
  generalize b * i = B at *
  by_cases c1 : B ≤ q ∧ q < B + b
  · rw [if_pos c1, h, if_neg (by omega), if_pos (by omega)]
  · rw [if_neg c1, h]
    by_cases c2 : A ≤ q ∧ q < B
    · rw [if_pos c2, if_pos (by omega)]
    · rw [if_neg c2, if_neg (by omega)]
theorem cpy4 (N : Nat) (hN : 2048 < N) (KO : Int32 → Wd → Option (Int32 × Wd)) {i : Nat} (hi : i ≤ 10) (τ : Wd) : ∃ τ', f_X10_forget_L60 N KO N (nI i) 0 τ = KO (nI i) τ' ∧ FrM [42] [] τ τ' ∧ ∀ q, τ'.1 42 q = if 4 * i ≤ q ∧ q < 4 * i + 4 then τ.1 42 (q + 4) else τ.1 42 q := by
  obtain ⟨τ', ⟨F, h⟩, e⟩ := lp_up (g := fun fu j s => f_X10_forget_L60 N KO fu (nI i) (nI j) s) (E := fun s => KO (nI i) s) (P := fun j τ' => FrM [42] [] τ τ' ∧ ∀ q, τ'.1 42 q = if 4 * i ≤ q ∧ q < 4 * i + j then τ.1 42 (q + 4) else τ.1 42 q) (m := 4) (fun fu j s hj ⟨F, h⟩ => by
      refine ⟨sF s 42 (4 * i + j) (s.1 42 (4 * i + 4 + j)), ⟨F.F (by decide) (by decide), fun q => ?_⟩, ?_⟩
      · rw [sF_1, if_pos rfl]
        by_cases hq : q = 4 * i + j
        · rw [if_pos hq, h, if_neg (by omega), if_pos (by omega), hq, show 4 * i + j + 4 = 4 * i + 4 + j by omega]
        · rw [if_neg hq, h]
          by_cases c : 4 * i ≤ q ∧ q < 4 * i + j
          · rw [if_pos c, if_pos (by omega)]
          · rw [if_neg c, if_neg (by omega)]
      · rw [f_X10_forget_L60, if_neg (show ¬ (4 : Int32) ≤ nI j from fun z => by have := (nLe (a := 4) (by omega) (by omega)).mp z; omega), show (4 : Int32) * nI i = nI (4 * i) from nMulL 4 i, show nI (4 * i) + 4 = nI (4 * i + 4) from nAddR (4 * i) 4, nI_add, nI_add, xld_n (by omega) (by omega), obind, xst_n (by omega) (by omega), obind, nI_1]) (fun fu s hP => by
      rw [f_X10_forget_L60, if_pos (show (4 : Int32) ≤ nI 4 from (nLe (a := 4) (by omega) (by omega)).mpr (Nat.le_refl _))]) 4 N 0 τ (by omega) (by omega) ⟨FrM.rf _ _ _, fun q => by rw [if_neg (by omega)]⟩
  exact ⟨τ', e, F, h⟩
theorem cpy8 (N : Nat) (hN : 2048 < N) (KO : Int32 → Wd → Option (Int32 × Wd)) {i : Nat} (hi : i ≤ 10) (τ : Wd) : ∃ τ', f_X10_forget_L95 N KO N (nI i) 0 τ = KO (nI i) τ' ∧ FrM [44] [] τ τ' ∧ ∀ q, τ'.1 44 q = if 8 * i ≤ q ∧ q < 8 * i + 8 then τ.1 44 (q + 8) else τ.1 44 q := by
  obtain ⟨τ', ⟨F, h⟩, e⟩ := lp_up (g := fun fu j s => f_X10_forget_L95 N KO fu (nI i) (nI j) s) (E := fun s => KO (nI i) s) (P := fun j τ' => FrM [44] [] τ τ' ∧ ∀ q, τ'.1 44 q = if 8 * i ≤ q ∧ q < 8 * i + j then τ.1 44 (q + 8) else τ.1 44 q) (m := 8) (fun fu j s hj ⟨F, h⟩ => by
      refine ⟨sF s 44 (8 * i + j) (s.1 44 (8 * i + 8 + j)), ⟨F.F (by decide) (by decide), fun q => ?_⟩, ?_⟩
      · rw [sF_1, if_pos rfl]
        by_cases hq : q = 8 * i + j
        · rw [if_pos hq, h, if_neg (by omega), if_pos (by omega), hq, show 8 * i + j + 8 = 8 * i + 8 + j by omega]
        · rw [if_neg hq, h]
          by_cases c : 8 * i ≤ q ∧ q < 8 * i + j
          · rw [if_pos c, if_pos (by omega)]
          · rw [if_neg c, if_neg (by omega)]
      · rw [f_X10_forget_L95, if_neg (show ¬ (8 : Int32) ≤ nI j from fun z => by have := (nLe (a := 8) (by omega) (by omega)).mp z; omega), show (8 : Int32) * nI i = nI (8 * i) from nMulL 8 i, show nI (8 * i) + 8 = nI (8 * i + 8) from nAddR (8 * i) 8, nI_add, nI_add, xld_n (by omega) (by omega), obind, xst_n (by omega) (by omega), obind, nI_1]) (fun fu s hP => by
      rw [f_X10_forget_L95, if_pos (show (8 : Int32) ≤ nI 8 from (nLe (a := 8) (by omega) (by omega)).mpr (Nat.le_refl _))]) 8 N 0 τ (by omega) (by omega) ⟨FrM.rf _ _ _, fun q => by rw [if_neg (by omega)]⟩
  exact ⟨τ', e, F, h⟩
theorem MPl.er {σ τ : Wd} {P : Pl} (M : MPl σ P) {n : Nat} (hn : n < P.length) (h4 : τ.1 41 4 = nI (P.length - 1)) (c43 : ∀ j, τ.1 43 j = σ.1 43 (if n ≤ j ∧ j < P.length - 1 then j + 1 else j)) (c45 : ∀ j, τ.1 45 j = σ.1 45 (if n ≤ j ∧ j < P.length - 1 then j + 1 else j)) (c42 : ∀ q, τ.1 42 q = σ.1 42 (if 4 * n ≤ q ∧ q < 4 * (P.length - 1) then q + 4 else q)) (c44 : ∀ q, τ.1 44 q = σ.1 44 (if 8 * n ≤ q ∧ q < 8 * (P.length - 1) then q + 8 else q)) (W : WP P) : MPl τ (P.eraseIdx n) := by
  refine ⟨by rw [h4, List.length_eraseIdx, if_pos hn], fun i p hp => ?_⟩
  rw [List.getElem?_eraseIdx] at hp
  by_cases hc : i < n
  · rw [if_pos hc] at hp
    obtain ⟨a, b, c, d⟩ := M.2 i p hp
    have B := W.at hp
    have b1 := B.1.2.1
    have b2 := B.2.1.1
    refine ⟨by rw [c43, if_neg (by omega)]; exact a, fun j x hx => ?_, by rw [c45, if_neg (by omega)]; exact c, fun j x hx => ?_⟩
    · have := (List.getElem?_eq_some_iff.mp hx).1
      rw [c42, if_neg (by omega)]; exact b j x hx
    · have := (List.getElem?_eq_some_iff.mp hx).1
      rw [c44, if_neg (by omega)]; exact d j x hx
  · rw [if_neg hc] at hp
    obtain ⟨a, b, c, d⟩ := M.2 (i + 1) p hp
    have hi := (List.getElem?_eq_some_iff.mp hp).1
    have B := W.at hp
    have b1 := B.1.2.1
    have b2 := B.2.1.1
    refine ⟨by rw [c43, if_pos (by omega)]; exact a, fun j x hx => ?_, by rw [c45, if_pos (by omega)]; exact c, fun j x hx => ?_⟩
    · have := (List.getElem?_eq_some_iff.mp hx).1
      rw [c42, if_pos (by omega), show 4 * i + j + 4 = 4 * (i + 1) + j by omega]; exact b j x hx
    · have := (List.getElem?_eq_some_iff.mp hx).1
      rw [c44, if_pos (by omega), show 8 * i + j + 8 = 8 * (i + 1) + j by omega]; exact d j x hx
theorem mforget_ok (N : Nat) (hN : 2048 < N) {σ : Wd} {P : Pl} (M : MPl σ P) (W : WP P) {n : Nat} (hn : n < P.length) : ∃ τ, f_X10_forget_L22 N (f_X10_forget_J138 N) N (nI n) (sF σ 41 4 (nI (P.length - 1))) = some (nI (P.length - 1), τ) ∧ MPl τ (P.eraseIdx n) ∧ FrM [42, 43, 44, 45] [4] σ τ := by
  have hP := W.1
  obtain ⟨τ, ⟨-, F, h4, c43, c45, c42, c44⟩, e⟩ := lp_up (g := fun fu i s => f_X10_forget_L22 N (f_X10_forget_J138 N) fu (nI i) s) (E := fun s => f_X10_forget_J138 N s) (P := fun i τ => n ≤ i ∧ FrM [42, 43, 44, 45] [4] σ τ ∧ τ.1 41 4 = nI (P.length - 1) ∧ (∀ j, τ.1 43 j = σ.1 43 (if n ≤ j ∧ j < i then j + 1 else j)) ∧ (∀ j, τ.1 45 j = σ.1 45 (if n ≤ j ∧ j < i then j + 1 else j)) ∧ (∀ q, τ.1 42 q = σ.1 42 (if 4 * n ≤ q ∧ q < 4 * i then q + 4 else q)) ∧ (∀ q, τ.1 44 q = σ.1 44 (if 8 * n ≤ q ∧ q < 8 * i then q + 8 else q))) (m := P.length - 1) (fun fu i τ hi ⟨hni, F, h4, c43, c45, c42, c44⟩ => by
      have F1 : FrM [43, 45] [] τ (sF (sF τ 43 i (τ.1 43 (i + 1))) 45 i (τ.1 45 (i + 1))) := ((FrM.rf _ _ τ).F (by decide) (by decide)).F (by decide) (by decide)
      obtain ⟨τ1, e1, G1, d1⟩ := cpy4 N hN (f_X10_forget_J93 N (f_X10_forget_L22 N (f_X10_forget_J138 N) fu) (f_X10_forget_J138 N)) (i := i) (by omega) (sF (sF τ 43 i (τ.1 43 (i + 1))) 45 i (τ.1 45 (i + 1)))
      obtain ⟨τ2, e2, G2, d2⟩ := cpy8 N hN (f_X10_forget_J132 N (f_X10_forget_L22 N (f_X10_forget_J138 N) fu) (f_X10_forget_J138 N)) (i := i) (by omega) τ1
      refine ⟨τ2, ⟨by omega, ((F.tr (F1.mo (by decide) (by simp))).tr (G1.mo (by decide) (by simp))).tr (G2.mo (by decide) (by simp)), by rw [G2.m (by simp), G1.m (by simp), F1.m (by simp)]; exact h4, shf hni c43 (fun j => ?_), shf hni c45 (fun j => ?_), shfB hni c42 (fun q => ?_), shfB hni c44 (fun q => ?_)⟩, ?_⟩
      · rw [G2.i (by decide) (by decide), G1.i (by decide) (by decide), sF_ne (by decide), sF_1, if_pos rfl]
      · rw [G2.i (by decide) (by decide), G1.i (by decide) (by decide), sF_1, if_pos rfl, sF_ne (by decide)]
      · rw [G2.i (by decide) (by decide), d1, F1.i (by decide) (by decide), F1.i (by decide) (by decide)]
      · rw [d2, G1.i (by decide) (by decide), G1.i (by decide) (by decide), F1.i (by decide) (by decide), F1.i (by decide) (by decide)]
      · rw [f_X10_forget_L22, h4, if_neg (fun z => by have := (nLe (by omega) (by omega)).mp z; omega), nI_1, xld_n (by omega) (by omega), obind, xst_n (by omega) (by omega), obind, xld_n (by omega) (by omega), obind, sF_ne (show 45 ≠ 43 by decide), xst_n (by omega) (by omega), obind, show (0 : Int32) = nI 0 from rfl]
        refine Eq.trans e1 ?_
        unfold f_X10_forget_J93
        refine Eq.trans e2 ?_
        unfold f_X10_forget_J132
        rw [nI_1]) (fun fu τ ⟨_, F, h4, _⟩ => by
      rw [f_X10_forget_L22, h4, if_pos ((nLe (by omega) (by omega)).mpr (Nat.le_refl _))]) (P.length - 1 - n) N n (sF σ 41 4 (nI (P.length - 1))) (by omega) (by omega) ⟨Nat.le_refl _, (FrM.rf _ _ σ).D (by decide), sF_eq, fun j => by rw [if_neg (by omega), sF_ne (by decide)], fun j => by rw [if_neg (by omega), sF_ne (by decide)], fun j => by rw [if_neg (by omega), sF_ne (by decide)], fun j => by rw [if_neg (by omega), sF_ne (by decide)]⟩
  unfold f_X10_forget_J138 at e
  rw [h4] at e
  exact ⟨τ, e, M.er hn h4 c43 c45 c42 c44 W, F⟩
def MKn (σ : Wd) (K : List Blk) : Prop := σ.1 41 14 = nI K.length ∧ ∀ i b, K[i]? = some b → σ.1 50 i = nI b.length ∧ MRow σ 49 (8 * i) b
theorem MKn.fr {σ τ : Wd} {ks fs : List Nat} {K : List Blk} (h : MKn σ K) (F : FrM ks fs σ τ) (h14 : 14 ∉ fs) (h49 : 49 ∉ ks) (h50 : 50 ∉ ks) : MKn τ K :=
  ⟨by rw [F.m h14]; exact h.1, fun i p hp => by
    obtain ⟨a, b⟩ := h.2 i p hp
    exact ⟨by rw [F.i h50 (by decide)]; exact a, b.fr F h49 (by decide)⟩⟩
theorem MKn.nil {σ : Wd} (h : σ.1 41 14 = 0) : MKn σ [] := ⟨h, fun i b hb => by simp at hb⟩
theorem placeKnown_ok (N : Nat) (hN : 2048 < N) {σ : Wd} {K : List Blk} (M : MKn σ K) (W : WK K) {K1 L base : Nat} {bs : Blk} (V : VB bs) (hR : MRow σ K1 base bs) (hl : base + bs.length ≤ L) (hL : L < 1000) : f_X10_placeKnown N K1 L (nI base) (nI bs.length) σ = some (if kix K bs < K.length then nI (kix K bs) else -2, σ) := by
  have hK := W.1
  have hiff : ∀ i b, K[i]? = some b → (b = bs ↔ i = kix K bs) := fun i b hb => by
    constructor
    · intro e
      subst e
      have hi := (List.getElem?_eq_some_iff.mp hb).1
      by_cases hc : kix K b < K.length
      · exact (List.getElem?_inj hi W.2.2).mp (hb.trans (kix_y hc).symm)
      · exact absurd hb (kix_n (by have := kix_le K b; omega))
    · intro e
      subst e
      have := kix_y (List.getElem?_eq_some_iff.mp hb).1
      rw [hb] at this
      exact Option.some.inj this
  unfold f_X10_placeKnown
  obtain ⟨x, rfl, e⟩ := lp_up (g := fun fu i x => f_X10_placeKnown_L7 N K1 L (f_X10_placeKnown_J56 N K1 L) fu (nI base) (nI bs.length) x (nI i) σ) (E := fun x => f_X10_placeKnown_J56 N K1 L x σ) (P := fun i x => x = if kix K bs < i then nI (kix K bs) else -2) (m := K.length) (fun fu i x hi hx => by
      have hp : K[i]? = some K[i] := List.getElem?_eq_getElem hi
      obtain ⟨m1, m2⟩ := M.2 i _ hp
      have B := (W.2.1 _ (List.mem_of_getElem? hp)).1
      have hB := B.1
      have hal := alikeB_ok N hN B V m2 hR (L0 := 168) (L3 := L) (by omega) hl (by decide) hL
      refine ⟨_, rfl, ?_⟩
      rw [f_X10_placeKnown_L7, M.1, if_neg (fun z => by have := (nLe (by omega) (by omega)).mp z; omega), xld_n (by omega) (by omega), obind, m1, show (8 : Int32) * nI i = nI (8 * i) from nMulL 8 i, hal, obind]
      dsimp only
      have hf := hiff i _ hp
      by_cases he : K[i] = bs
      · rw [if_pos he, if_neg (show ¬ (1 : Int32) = 0 by decide), nI_1, if_pos (by have := hf.mp he; omega), ← hf.mp he]
      · rw [if_neg he, if_pos rfl, nI_1, hx]
        have hne : i ≠ kix K bs := fun z => he (hf.mpr z)
        by_cases hc : kix K bs < i
        · rw [if_pos hc, if_pos (by omega)]
        · rw [if_neg hc, if_neg (by omega)]) (fun fu x hx => by
      rw [f_X10_placeKnown_L7, M.1, if_pos ((nLe (by omega) (by omega)).mpr (Nat.le_refl _))]) K.length N 0 (-2) (by omega) (by omega) (by rw [if_neg (Nat.not_lt_zero _)])
  exact e
theorem leaves_ok (N : Nat) (hN : 2048 < N) {σ : Wd} {K : List Blk} (M : MKn σ K) (hV : ∀ b, b ∈ K → VB b) (hK : K.length ≤ 21) {n : Nat} (hn : n < K.length) : ∃ τ, f_X10_leaves N (nI n) σ = some τ ∧ MKn τ (K.eraseIdx n) ∧ FrM [49, 50] [14] σ τ := by
  unfold f_X10_leaves
  dsimp only
  rw [M.1, show nI K.length - 1 = nI (K.length - 1) from pk_sub (b := 1) (by omega)]
  obtain ⟨τ, ⟨-, F, h14, c50, c49⟩, e⟩ := lp_up (g := fun fu i s => f_X10_leaves_L12 N (f_X10_leaves_J79 N) fu (nI i) s) (E := fun s => f_X10_leaves_J79 N s) (P := fun i τ => n ≤ i ∧ FrM [49, 50] [14] σ τ ∧ τ.1 41 14 = nI (K.length - 1) ∧ (∀ j, τ.1 50 j = σ.1 50 (if n ≤ j ∧ j < i then j + 1 else j)) ∧ (∀ q, τ.1 49 q = σ.1 49 (if 8 * n ≤ q ∧ q < 8 * i then q + 8 else q))) (m := K.length - 1) (fun fu i τ hi ⟨hni, F, h14, c50, c49⟩ => by
      obtain ⟨τ', ⟨G, d⟩, e⟩ := lp_up (g := fun fu2 j s => f_X10_leaves_L36 N (f_X10_leaves_J73 N (f_X10_leaves_L12 N (f_X10_leaves_J79 N) fu) (f_X10_leaves_J79 N)) fu2 (nI i) (nI j) s) (E := fun s => f_X10_leaves_J73 N (f_X10_leaves_L12 N (f_X10_leaves_J79 N) fu) (f_X10_leaves_J79 N) (nI i) s) (P := fun j τ' => FrM [49] [] (sF τ 50 i (τ.1 50 (i + 1))) τ' ∧ ∀ q, τ'.1 49 q = if 8 * i ≤ q ∧ q < 8 * i + j then τ.1 49 (q + 8) else τ.1 49 q) (m := 8) (fun fu2 j s hj ⟨F, h⟩ => by
          refine ⟨sF s 49 (8 * i + j) (s.1 49 (8 * i + 8 + j)), ⟨F.F (by decide) (by decide), fun q => ?_⟩, ?_⟩
          · rw [sF_1, if_pos rfl]
            by_cases hq : q = 8 * i + j
            · rw [if_pos hq, h, if_neg (by omega), if_pos (by omega), hq, show 8 * i + j + 8 = 8 * i + 8 + j by omega]
            · rw [if_neg hq, h]
              by_cases c : 8 * i ≤ q ∧ q < 8 * i + j
              · rw [if_pos c, if_pos (by omega)]
              · rw [if_neg c, if_neg (by omega)]
          · rw [f_X10_leaves_L36, if_neg (show ¬ (8 : Int32) ≤ nI j from fun z => by have := (nLe (a := 8) (by omega) (by omega)).mp z; omega), show (8 : Int32) * nI i = nI (8 * i) from nMulL 8 i, show nI (8 * i) + 8 = nI (8 * i + 8) from nAddR (8 * i) 8, nI_add, nI_add, xld_n (by omega) (by omega), obind, xst_n (by omega) (by omega), obind, nI_1]) (fun fu2 s hP => by
          rw [f_X10_leaves_L36, if_pos (show (8 : Int32) ≤ nI 8 from (nLe (a := 8) (by omega) (by omega)).mpr (Nat.le_refl _))]) 8 N 0 (sF τ 50 i (τ.1 50 (i + 1))) (by omega) (by omega) ⟨FrM.rf _ _ _, fun q => by rw [if_neg (by omega), sF_ne (by decide)]⟩
      refine ⟨τ', ⟨by omega, (F.F (by decide) (by decide)).tr (G.mo (by decide) (by simp)), by rw [G.m (by simp), sF_ne (by decide)]; exact h14, shf hni c50 (fun j => by rw [G.i (by decide) (by decide), sF_1, if_pos rfl]), shfB hni c49 d⟩, ?_⟩
      rw [f_X10_leaves_L12, h14, if_neg (fun z => by have := (nLe (by omega) (by omega)).mp z; omega), nI_1, xld_n (by omega) (by omega), obind, xst_n (by omega) (by omega), obind, show (0 : Int32) = nI 0 from rfl]
      refine Eq.trans e ?_
      unfold f_X10_leaves_J73
      rw [nI_1]) (fun fu τ ⟨_, F, h14, _⟩ => by
      rw [f_X10_leaves_L12, h14, if_pos ((nLe (by omega) (by omega)).mpr (Nat.le_refl _))]) (K.length - 1 - n) N n (sF σ 41 14 (nI (K.length - 1))) (by omega) (by omega) ⟨Nat.le_refl _, (FrM.rf _ _ σ).D (by decide), sF_eq, fun j => by rw [if_neg (by omega), sF_ne (by decide)], fun j => by rw [if_neg (by omega), sF_ne (by decide)]⟩
  refine ⟨τ, e, ⟨by rw [h14, List.length_eraseIdx, if_pos hn], fun i b hb => ?_⟩, F⟩
  rw [List.getElem?_eraseIdx] at hb
  by_cases hc : i < n
  · rw [if_pos hc] at hb
    obtain ⟨m1, m2⟩ := M.2 i b hb
    have hB := (hV b (List.mem_of_getElem? hb)).1
    refine ⟨by rw [c50, if_neg (by omega)]; exact m1, fun j x hx => ?_⟩
    have := (List.getElem?_eq_some_iff.mp hx).1
    rw [c49, if_neg (by omega)]; exact m2 j x hx
  · rw [if_neg hc] at hb
    obtain ⟨m1, m2⟩ := M.2 (i + 1) b hb
    have hi := (List.getElem?_eq_some_iff.mp hb).1
    have hB := (hV b (List.mem_of_getElem? hb)).1
    refine ⟨by rw [c50, if_pos (by omega)]; exact m1, fun j x hx => ?_⟩
    have := (List.getElem?_eq_some_iff.mp hx).1
    rw [c49, if_pos (by omega), show 8 * i + j + 8 = 8 * (i + 1) + j by omega]; exact m2 j x hx
theorem knowsJ_ok (N : Nat) (hN : 2048 < N) {σ : Wd} {P : Pl} (MP : MPl σ P) (WPp : WP P) {n : Nat} {p : List Nat × Blk} (hp : P[n]? = some p) {K : List Blk} (M : MKn σ K) (hV : ∀ b, b ∈ K → VB b) (hK : K.length ≤ 20) : ∃ τ, f_X10_knows_J28 N (nI n) σ = some τ ∧ MKn τ (if K.length = 20 then (K ++ [p.2]).eraseIdx 0 else K ++ [p.2]) ∧ FrM [49, 50] [14] σ τ := by
  have hn := (List.getElem?_eq_some_iff.mp hp).1
  have hP := WPp.1
  obtain ⟨-, -, m3, m4⟩ := MP.2 n p hp
  unfold f_X10_knows_J28
  rw [xld_n (by omega) (by omega), obind, m3, M.1, xst_n (by omega) (by omega), obind]
  obtain ⟨τ, ⟨F, h1, h2⟩, e⟩ := lp_up (g := fun fu j s => f_X10_knows_L45 N (f_X10_knows_J82 N) fu (nI n) (nI j) s) (E := fun s => f_X10_knows_J82 N s) (P := fun j τ => FrM [49] [] (sF σ 50 K.length (nI p.2.length)) τ ∧ (∀ q, q < j → τ.1 49 (8 * K.length + q) = σ.1 44 (8 * n + q)) ∧ ∀ q, q < 8 * K.length → τ.1 49 q = σ.1 49 q) (m := 8) (fun fu j s hj ⟨F, h1, h2⟩ => by
      refine ⟨sF s 49 (8 * K.length + j) (s.1 44 (8 * n + j)), ⟨F.F (by decide) (by decide), fun q hq => ?_, fun q hq => ?_⟩, ?_⟩
      · by_cases hqj : q = j
        · rw [hqj, sF_eq, F.i (by decide) (by decide), sF_ne (by decide)]
        · rw [sF_nb (by omega)]; exact h1 q (by omega)
      · rw [sF_nb (by omega)]; exact h2 q hq
      · rw [f_X10_knows_L45, if_neg (show ¬ (8 : Int32) ≤ nI j from fun z => by have := (nLe (a := 8) (by omega) (by omega)).mp z; omega), show (8 : Int32) * nI n = nI (8 * n) from nMulL 8 n, nI_add, xld_n (by omega) (by omega), obind, F.m (by simp), sF_ne (show 41 ≠ 50 by decide), M.1, show (8 : Int32) * nI K.length = nI (8 * K.length) from nMulL 8 _, nI_add, xst_n (by omega) (by omega), obind, nI_1]) (fun fu s hP => by
      rw [f_X10_knows_L45, if_pos (show (8 : Int32) ≤ nI 8 from (nLe (a := 8) (by omega) (by omega)).mpr (Nat.le_refl _))]) 8 N 0 (sF σ 50 K.length (nI p.2.length)) (by omega) (by omega) ⟨FrM.rf _ _ _, fun q hq => absurd hq (Nat.not_lt_zero q), fun q hq => sF_ne (by decide)⟩
  have e' : f_X10_knows_L45 N (f_X10_knows_J82 N) N (nI n) 0 (sF σ 50 K.length (nI p.2.length)) = f_X10_knows_J82 N τ := e
  rw [e']
  unfold f_X10_knows_J82
  dsimp only
  have h14 : τ.1 41 14 = nI K.length := by rw [F.m (by simp), sF_ne (by decide)]; exact M.1
  have Vp := (WPp.at hp).2.1
  have Vp1 := Vp.1
  rw [h14, nI_1, sF_eq]
  have F2 : FrM [49, 50] [14] σ (sF τ 41 14 (nI (K.length + 1))) := (((FrM.rf [49, 50] [14] σ).F (k := 50) (by decide) (by decide)).tr (F.mo (by decide) (by simp))).D (by decide)
  have M2 : MKn (sF τ 41 14 (nI (K.length + 1))) (K ++ [p.2]) := by
    refine ⟨by rw [sF_eq, List.length_append]; rfl, fun i b hb => ?_⟩
    rw [getE_app] at hb
    by_cases hi : i = K.length
    · rw [if_pos hi] at hb
      cases hb
      subst hi
      refine ⟨by rw [sF_ne (by decide), F.i (by decide) (by decide), sF_eq], fun j x hx => ?_⟩
      have := (List.getElem?_eq_some_iff.mp hx).1
      rw [sF_ne (by decide), h1 j (by omega)]; exact m4 j x hx
    · rw [if_neg hi] at hb
      have hil := (List.getElem?_eq_some_iff.mp hb).1
      obtain ⟨m1, m2⟩ := M.2 i b hb
      have hB := (hV b (List.mem_of_getElem? hb)).1
      refine ⟨by rw [sF_ne (by decide), F.i (by decide) (by decide), sF_nb hi]; exact m1, fun j x hx => ?_⟩
      have := (List.getElem?_eq_some_iff.mp hx).1
      rw [sF_ne (by decide), h2 _ (by omega)]; exact m2 j x hx
  by_cases h20 : K.length = 20
  · rw [if_neg (show ¬ nI (K.length + 1) ≤ 20 from fun z => by have := (nLe (b := 20) (by omega) (by omega)).mp z; omega), if_pos h20]
    obtain ⟨τ3, e3, M3, F3⟩ := leaves_ok N hN M2 (fun b hb => by
      rcases List.mem_append.mp hb with q | q
      · exact hV b q
      · rw [List.mem_singleton.mp q]; exact Vp) (by rw [List.length_append]; show K.length + 1 ≤ 21; omega) (n := 0) (by rw [List.length_append]; show 0 < K.length + 1; omega)
    rw [show (0 : Int32) = nI 0 from rfl, e3, obind]
    exact ⟨τ3, rfl, M3, F2.tr F3⟩
  · rw [if_pos (show nI (K.length + 1) ≤ 20 from (nLe (b := 20) (by omega) (by omega)).mpr (by omega)), if_neg h20]
    exact ⟨_, rfl, M2, F2⟩
theorem knows_ok (N : Nat) (hN : 2048 < N) {σ : Wd} {P : Pl} (MP : MPl σ P) (WPp : WP P) {n : Nat} {p : List Nat × Blk} (hp : P[n]? = some p) {K : List Blk} (M : MKn σ K) (W : WK K) : ∃ τ, f_X10_knows N (nI n) σ = some τ ∧ MKn τ (askK K p.2) ∧ FrM [49, 50] [14] σ τ := by
  have hn := (List.getElem?_eq_some_iff.mp hp).1
  have hP := WPp.1
  have hK := W.1
  have hle := kix_le K p.2
  obtain ⟨-, -, m3, m4⟩ := MP.2 n p hp
  have Vp := (WPp.at hp).2.1
  have Vp1 := Vp.1
  unfold f_X10_knows askK aix
  rw [xld_n (by omega) (by omega), obind, m3, show (8 : Int32) * nI n = nI (8 * n) from nMulL 8 n, placeKnown_ok N hN M W Vp m4 (by omega) (by decide), obind]
  dsimp only
  by_cases hc : kix K p.2 < K.length
  · rw [if_pos hc, if_neg (show ¬ nI (kix K p.2) < 0 from neg_lt _ (by omega)), if_neg (fun z => by omega)]
    obtain ⟨τ1, e1, M1, F1⟩ := leaves_ok N hN M (fun b hb => (W.2.1 b hb).1) (by omega) hc
    rw [e1, obind]
    have hs := List.eraseIdx_sublist K (kix K p.2)
    have hlen : (K.eraseIdx (kix K p.2)).length ≤ 19 := by rw [List.length_eraseIdx, if_pos hc]; omega
    obtain ⟨τ2, e2, M2, F2⟩ := knowsJ_ok N hN (MP.fr F1 (by decide) (by decide) (by decide) (by decide) (by decide)) WPp hp M1 (fun b hb => (W.2.1 b (hs.subset hb)).1) (by omega)
    rw [if_neg (by omega)] at M2
    exact ⟨τ2, e2, M2, F1.tr F2⟩
  · rw [if_neg hc, if_pos (show (-2 : Int32) < 0 by decide)]
    have he : kix K p.2 = K.length := by omega
    obtain ⟨τ2, e2, M2, F2⟩ := knowsJ_ok N hN MP WPp hp M (fun b hb => (W.2.1 b hb).1) hK
    refine ⟨τ2, e2, ?_, F2⟩
    by_cases h20 : K.length = 20
    · rw [if_pos h20] at M2
      rw [if_pos ⟨he, h20⟩]
      have : (K ++ [p.2]).eraseIdx 0 = K.eraseIdx 0 ++ [p.2] := by
        cases K with
        | nil => simp at h20
        | cons x K => rfl
      rw [this] at M2
      exact M2
    · rw [if_neg h20] at M2
      rw [if_neg (fun z => h20 z.2), he, List.eraseIdx_of_length_le (Nat.le_refl _)]
      exact M2
end
