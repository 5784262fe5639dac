/-! A net cut back to the gates that were there before. -/
theorem NT.cut {lf : Nat → Nat} {n m : Nat} {kd l r den : Nat → Nat} (h : NT lf n kd l r den) (hm : m ≤ n) (h27 : 27 ≤ m) : NT lf m kd l r den :=
  ⟨h27, h.2.1, fun k a b => h.2.2.1 k a (by omega), fun j k hj hk e => h.2.2.2 j k (by omega) (by omega) e⟩
theorem CN.dcg {σ : Wd} {n : Nat} {den den' : Nat → Nat} (H : CN σ n den') (h : ∀ k, k < n → den' k = den k) : CN σ n den := by
  obtain ⟨kd, l, r, nw, bf, ⟨a1, a2, a3, a4⟩, rest⟩ := H
  refine ⟨kd, l, r, nw, bf, ⟨a1, fun k hk => by rw [← h k (by omega)]; exact a2 k hk, fun k k1 k2 => ?_, fun j k hj hk e => a4 j k hj hk (by rw [h j hj, h k hk]; exact e)⟩, rest⟩
  obtain ⟨b1, b2, b3, b4⟩ := a3 k k1 k2
  exact ⟨b1, b2, b3, by rw [← h k k2, b4, h _ (by omega), h _ (by omega)]⟩
theorem sF_id (σ : Wd) (k n : Nat) : sF σ k n (σ.1 k n) = σ := by
  apply Prod.ext
  · funext a b
    rw [sF_1]
    by_cases ha : a = k
    · rw [if_pos ha]
      by_cases hb : b = n
      · rw [if_pos hb, ha, hb]
      · rw [if_neg hb]
    · rw [if_neg ha]
  · rfl
theorem ncut_step {σ : Wd} {i : Nat} {kd l r nw bf den : Nat → Nat} (h27 : 27 ≤ i) (H : CNet (sF σ 4 5 (nI (i + 1))) (i + 1) kd l r nw bf den) : CNet (sF (sF σ 23 (r i) (nI (bf i))) 4 5 (nI i)) i kd l r (fun h => if h = r i then bf i else nw h) bf den := by
  obtain ⟨h1, h2, h3, h4, h5, h6, h7⟩ := H
  refine ⟨h1.cut (by omega) h27, by omega, sF_eq, fun k k1 k2 => ?_, fun h hh => ?_, fun h hh => ?_, fun g g1 g2 => h7 g g1 (by omega)⟩
  · have q := h4 k k1 (by omega)
    rw [sF_ne (by decide), sF_ne (by decide), sF_ne (by decide), sF_ne (by decide)] at q
    rw [sF_ne (by decide), sF_ne (by decide), sF_ne (by decide), sF_ne (by decide), sF_ne (by decide), sF_ne (by decide), sF_ne (by decide), sF_ne (by decide)]
    exact q
  · dsimp only
    rw [sF_ne (by decide)]
    by_cases hr : h = r i
    · rw [if_pos hr, hr, sF_eq]
    · rw [if_neg hr, sF_nb hr]
      have q := h5 h (by omega)
      rw [sF_ne (by decide)] at q
      exact q
  · dsimp only
    by_cases hr : h = r i
    · rw [if_pos hr, hr]
      exact h7 i h27 (by omega)
    · rw [if_neg hr]
      rcases h6 h (by omega) with ⟨a1, a2⟩ | ⟨a1, a2, a3, a4⟩
      · exact Or.inl ⟨a1, fun k k1 k2 => a2 k k1 (by omega)⟩
      · have hne : nw h ≠ i := fun z => hr (by rw [← a3, z])
        exact Or.inr ⟨a1, by omega, a3, fun k k1 k2 k3 => a4 k k1 (by omega) k3⟩
theorem cutBack_ok (N : Nat) (hN : 512 < N) {σ σ' : Wd} {n n' m : Nat} {den den' : Nat → Nat} {st : NSt} (H : CLS σ n den st) (X : EX n den σ' n' den' m) (hs : ∀ i, i < st.1 → σ'.1 22 i = σ.1 22 i) :
    ∃ τ, f_X2_cutBack N (nI n) (nI st.1) (σ.1 4 7) σ' = some τ ∧ CLS τ n den st ∧ Fr [4, 23] σ' τ ∧ τ.1 4 7 = σ.1 4 7 := by
  obtain ⟨hC, h6, ⟨z, z1, z2, z3⟩, h22⟩ := H
  obtain ⟨⟨kd, l, r, nw0, bf, HN⟩, hn, -, hd⟩ := X
  have h27 := hC.lt.1
  have hn5 := HN.2.1
  unfold f_X2_cutBack
  rw [HN.2.2.1, show nI n' - 1 = nI (n' - 1) from nSub (b := 1) (by omega)]
  obtain ⟨τ, ⟨F, -, nw, HC⟩, e⟩ := lp_dn (g := fun fu i σ => f_X2_cutBack_L8 N (f_X2_cutBack_J39 N) fu (nI n) (nI st.1) (nI z) (nI (i - 1)) σ) (E := fun σ => f_X2_cutBack_J39 N (nI n) (nI st.1) (nI z) σ) (P := fun i τ => Fr [23] σ' τ ∧ i ≤ n' ∧ ∃ nw, CNet (sF τ 4 5 (nI i)) i kd l r nw bf den') (lo := n) (fun fu i τ hi hP => by
      obtain ⟨F, hin, nw, HC⟩ := hP
      have hlt : ¬ i < n := by omega
      obtain ⟨g1, g2, g3, g4, g5, g6⟩ := HC.2.2.2.1 i (by omega) (by omega)
      rw [sF_ne (by decide)] at g1 g2 g3 g5
      have hr := (HC.1.2.2.1 i (by omega) (by omega)).2.2.1
      refine ⟨sF τ 23 (r i) (nI (bf i)), ⟨F.F (by decide), by omega, _, ncut_step (by omega) HC⟩, ?_⟩
      simp (disch := omega) only [f_X2_cutBack_L8, Nat.add_sub_cancel, nLt, hlt, if_false, xld_n, obind, g3, g5, xst_n, nM1]) (fun fu τ hP => by
      have hlt : n - 1 < n := by omega
      simp (disch := omega) only [f_X2_cutBack_L8, nLt, hlt, if_true]) (n' - n) N n' σ' (by omega) (by omega) ⟨Fr.rf _ σ', Nat.le_refl _, nw0, by rw [← HN.2.2.1, sF_id]; exact HN⟩
  rw [z2]
  refine ⟨_, e, ⟨(((show CN (sF τ 4 5 (nI n)) n den' from ⟨kd, l, r, nw, bf, HC⟩).put (K := 4) (j := 6) (by omega)).put (K := 4) (j := 7) (by omega)).dcg hd, ?_, ⟨z, z1, sF_eq, z3⟩, fun i hi => ?_⟩, ?_, sF_eq⟩
  · rw [sF_nb (by decide), sF_eq]
  · obtain ⟨y, y1, y2, y3⟩ := h22 i hi
    exact ⟨y, y1, by rw [sF_ne (by decide), sF_ne (by decide), sF_ne (by decide), F.i (by decide), hs i hi]; exact y2, y3⟩
  · exact (((F.mo (by decide)).F (by decide)).F (by decide)).F (by decide)
