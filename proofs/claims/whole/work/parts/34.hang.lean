/-! On which inputs the latest outcomes hang, and by how many gates. -/
def HS (d ar : Nat → Nat) : Nat → Nat × Nat × (Nat → Prop) := fold (fun t => (tmL ar t, t, fun s => s = t)) (fun k x y => (d k + max x.1 y.1, mkT k x.2.1 y.2.1, fun s => s = mkT k x.2.1 y.2.1 ∨ (x.1 = max x.1 y.1 ∧ x.2.2 s) ∨ (y.1 = max x.1 y.1 ∧ y.2.2 s)))
theorem HS_sym (d : Nat → Nat) : ∀ (k : Nat) (x y : Nat × Nat × (Nat → Prop)), ((d k + max x.1 y.1, mkT k x.2.1 y.2.1, fun s => s = mkT k x.2.1 y.2.1 ∨ (x.1 = max x.1 y.1 ∧ x.2.2 s) ∨ (y.1 = max x.1 y.1 ∧ y.2.2 s)) : Nat × Nat × (Nat → Prop)) = (d k + max y.1 x.1, mkT k y.2.1 x.2.1, fun s => s = mkT k y.2.1 x.2.1 ∨ (y.1 = max y.1 x.1 ∧ y.2.2 s) ∨ (x.1 = max y.1 x.1 ∧ x.2.2 s)) := by
  intro k x y
  rw [mkT_comm k y.2.1 x.2.1, Nat.max_comm y.1 x.1]
  congr 2
  funext s
  exact propext ⟨fun h => h.elim Or.inl (fun h => Or.inr h.symm), fun h => h.elim Or.inl (fun h => Or.inr h.symm)⟩
theorem DP_sym (d : Nat → Nat) : ∀ (k : Nat) (x y : Nat × Nat), ((d k + max x.1 y.1, 1 + max (if x.1 = max x.1 y.1 then x.2 else 0) (if y.1 = max x.1 y.1 then y.2 else 0)) : Nat × Nat) = (d k + max y.1 x.1, 1 + max (if y.1 = max y.1 x.1 then y.2 else 0) (if x.1 = max y.1 x.1 then x.2 else 0)) := by
  intro k x y
  rw [Nat.max_comm y.1 x.1, Nat.max_comm (if y.1 = max x.1 y.1 then y.2 else 0)]
section HANG
variable {lf : Nat → Nat} {n : Nat} {kd l r den : Nat → Nat} {d ar : Nat → Nat}
theorem HS_leaf (h : NT lf n kd l r den) (hlf : LF lf) {k : Nat} (hk : k < 27) : HS d ar (den k) = (tmL ar (den k), den k, fun s => s = den k) := by
  rw [h.2.1 k hk]; exact fold_leaf (hlf.1 k hk)
theorem HS_gate (h : NT lf n kd l r den) {k : Nat} (hk : 27 ≤ k) (hn : k < n) : HS d ar (den k) = (d (kd k) + max (HS d ar (den (l k))).1 (HS d ar (den (r k))).1, mkT (kd k) (HS d ar (den (l k))).2.1 (HS d ar (den (r k))).2.1, fun s => s = mkT (kd k) (HS d ar (den (l k))).2.1 (HS d ar (den (r k))).2.1 ∨ ((HS d ar (den (l k))).1 = max (HS d ar (den (l k))).1 (HS d ar (den (r k))).1 ∧ (HS d ar (den (l k))).2.2 s) ∨ ((HS d ar (den (r k))).1 = max (HS d ar (den (l k))).1 (HS d ar (den (r k))).1 ∧ (HS d ar (den (r k))).2.2 s)) := by
  obtain ⟨a1, a2, a3, a4⟩ := h.2.2.1 k hk hn
  have := fold_mk (L := fun t => ((tmL ar t, t, fun s => s = t) : Nat × Nat × (Nat → Prop))) (HS_sym d) a1 (den (l k)) (den (r k))
  rw [← a4] at this
  exact this
theorem HS_12 (h : NT lf n kd l r den) (hlf : LF lf) : ∀ k, k < n → (HS d ar (den k)).1 = TM d ar (den k) ∧ (HS d ar (den k)).2.1 = den k := by
  intro k
  induction k using Nat.strongRecOn with
  | _ k ih =>
    intro hk
    by_cases hk2 : k < 27
    · rw [HS_leaf h hlf hk2, tm_leaf h hlf hk2, h.2.1 k hk2]; exact ⟨rfl, rfl⟩
    · obtain ⟨a1, a2, a3, a4⟩ := h.2.2.1 k (by omega) hk
      obtain ⟨b1, b2⟩ := ih _ a2 (by omega)
      obtain ⟨b3, b4⟩ := ih _ a3 (by omega)
      rw [HS_gate h (by omega) hk, tm_gate h (by omega) hk, b1, b2, b3, b4]
      exact ⟨rfl, a4.symm⟩
theorem rr_hs (h : NT lf n kd l r den) (hlf : LF lf) : RR n l r den (fun k => TM d ar (den (l k)) = max (TM d ar (den (l k))) (TM d ar (den (r k)))) (fun k => TM d ar (den (r k)) = max (TM d ar (den (l k))) (TM d ar (den (r k)))) (fun s k => (HS d ar (den k)).2.2 s) := by
  refine ⟨fun k h1 _ s => ?_, fun k h1 h2 s => ?_⟩
  · show (HS d ar (den k)).2.2 s ↔ _
    rw [HS_leaf h hlf h1]
  · obtain ⟨a1, a2, a3, a4⟩ := h.2.2.1 k h1 h2
    obtain ⟨b1, b2⟩ := HS_12 (d := d) (ar := ar) h hlf (l k) (by omega)
    obtain ⟨b3, b4⟩ := HS_12 (d := d) (ar := ar) h hlf (r k) (by omega)
    show (HS d ar (den k)).2.2 s ↔ _
    rw [HS_gate h h1 h2, b1, b2, b3, b4, ← a4]
theorem dp_leaf (h : NT lf n kd l r den) (hlf : LF lf) {k : Nat} (hk : k < 27) : DP d ar (den k) = (tmL ar (lf k), 0) := by
  rw [h.2.1 k hk]; exact fold_leaf (hlf.1 k hk)
theorem dp_gate (h : NT lf n kd l r den) {k : Nat} (hk : 27 ≤ k) (hn : k < n) : DP d ar (den k) = (d (kd k) + max (DP d ar (den (l k))).1 (DP d ar (den (r k))).1, 1 + max (if (DP d ar (den (l k))).1 = max (DP d ar (den (l k))).1 (DP d ar (den (r k))).1 then (DP d ar (den (l k))).2 else 0) (if (DP d ar (den (r k))).1 = max (DP d ar (den (l k))).1 (DP d ar (den (r k))).1 then (DP d ar (den (r k))).2 else 0)) := by
  obtain ⟨a1, a2, a3, a4⟩ := h.2.2.1 k hk hn
  have := fold_mk (L := fun t => ((tmL ar t, 0) : Nat × Nat)) (DP_sym d) a1 (den (l k)) (den (r k))
  rw [← a4] at this
  exact this
theorem dp_1 (h : NT lf n kd l r den) (hlf : LF lf) : ∀ k, k < n → (DP d ar (den k)).1 = TM d ar (den k) ∧ (DP d ar (den k)).2 ≤ k := by
  intro k
  induction k using Nat.strongRecOn with
  | _ k ih =>
    intro hk
    by_cases hk2 : k < 27
    · rw [dp_leaf h hlf hk2, tm_leaf h hlf hk2]; exact ⟨rfl, Nat.zero_le _⟩
    · obtain ⟨a1, a2, a3, a4⟩ := h.2.2.1 k (by omega) hk
      obtain ⟨b1, b2⟩ := ih _ a2 (by omega)
      obtain ⟨b3, b4⟩ := ih _ a3 (by omega)
      rw [dp_gate h (by omega) hk, tm_gate h (by omega) hk, b1, b3]
      refine ⟨rfl, ?_⟩
      show 1 + max _ _ ≤ k
      split <;> split <;> omega
end HANG
/-- whether a part comes just the delay ahead -/
theorem held_ok (N : Nat) {σ : Wd} {n : Nat} {kd l r den d ar : Nat → Nat} (H : GR σ n kd l r den) (hD : DA σ d ar) (hb : dab d ar) (hW : RW σ 32 n (fun k => TM d ar (den k))) {k p : Nat} (hk : 27 ≤ k) (hn : k < n) (hp : p < n) :
    f_X8_isHeldUpBy N (nI k) (nI p) σ = some (if TM d ar (den p) = max (TM d ar (den (l k))) (TM d ar (den (r k))) then 1 else 0, σ) := by
  obtain ⟨hT, hnn, h45, h18, -⟩ := H
  have hkd := (hT.2.2.1 k hk hn).1
  obtain ⟨w1, w2⟩ := hW k hn
  obtain ⟨w3, w4⟩ := hW p hp
  dsimp only at w2 w4
  have hg := tm_gate hT (d := d) (ar := ar) hk hn
  have hd := hb.1 _ hkd
  simp (disch := omega) only [f_X8_isHeldUpBy, xld_n, obind, h18 k hk hn, hD.1 _ hkd, w1, w3, nSub]
  by_cases hc : TM d ar (den p) = max (TM d ar (den (l k))) (TM d ar (den (r k)))
  · rw [if_pos (by rw [hg, hc]; congr 1; omega), if_pos hc]
  · rw [if_neg (fun z => hc (by rw [(nEq (by omega) (by omega)).mp z, hg]; omega)), if_neg hc]
theorem hang0 (N : Nat) (KO : Wd → Option Wd) {σ : Wd} {n : Nat} (hn : n ≤ 512) (hN : 512 < N) (h45 : σ.1 4 5 = nI n) : ∃ τ, (Fr [34] σ τ ∧ ∀ j, j < n → τ.1 34 j = 0) ∧ f_X8_markHanging_L2 N KO N 0 σ = KO τ := by
  refine lp_up (g := fun fu i σ => f_X8_markHanging_L2 N KO fu (nI i) σ) (E := KO) (P := fun i τ => Fr [34] σ τ ∧ ∀ j, j < i → τ.1 34 j = 0) (m := n) ?_ ?_ n N 0 σ (by omega) (by omega) ⟨Fr.rf _ σ, fun j hj => by omega⟩
  · intro fu i τ hi hP
    have e := hP.1.i (a := 4) (by decide) 5
    have hle : ¬ n ≤ i := by omega
    refine ⟨sF τ 34 i 0, ⟨hP.1.F (by decide), fun j hj => ?_⟩, ?_⟩
    · by_cases hji : j = i
      · subst hji; exact sF_eq
      · rw [sF_nb hji]; exact hP.2 j (by omega)
    · simp (disch := omega) only [f_X8_markHanging_L2, e, h45, nLe, hle, if_false, xst0_n, obind, nI_1]
  · intro fu τ hP
    have e := hP.1.i (a := 4) (by decide) 5
    simp (disch := omega) only [f_X8_markHanging_L2, e, h45, nLe, Nat.le_refl, if_true]
theorem hang1 (N : Nat) (KO : Wd → Option Wd) {σ : Wd} {n w : Nat} {den oz W : Nat → Nat} (hn : n ≤ 512) (hN : 512 < N) (HO : OG σ n den w oz) (hW : RW σ 32 n W) (h0 : ∀ j, j < n → σ.1 34 j = 0) {L : Nat} (hL : L < 1000000) : ∃ τ, (Fr [34] σ τ ∧ BRow τ 34 n (fun j => ∃ i, i < w + 1 ∧ W (oz i) = L ∧ j = oz i)) ∧ f_X8_markHanging_L31 N KO N (nI L) 0 σ = KO τ := by
  have hw := HO.1
  refine lp_up (g := fun fu i σ => f_X8_markHanging_L31 N KO fu (nI L) (nI i) σ) (E := KO) (P := fun i τ => Fr [34] σ τ ∧ BRow τ 34 n (fun j => ∃ o, o < i ∧ W (oz o) = L ∧ j = oz o)) (m := w + 1) ?_ ?_ (w + 1) N 0 σ (by omega) (by omega) ⟨Fr.rf _ σ, fun j hj => Or.inr ⟨fun ⟨o, o1, o2⟩ => by omega, h0 j hj⟩⟩
  · intro fu i τ hi hP
    have HO2 := HO.fr hP.1 (by decide) (by decide)
    have hW2 := hW.fr hP.1 (by decide)
    have hle : ¬ w < i := by omega
    have hz := HO.2.2.2.2 i (by omega)
    have hw2 := (hW (oz i) hz).2
    by_cases hc : W (oz i) = L
    · refine ⟨sF τ 34 (oz i) 1, ⟨hP.1.F (by decide), hP.2.set.cg fun j hj => ?_⟩, ?_⟩
      · constructor
        · rintro ⟨o, o1, o2, o3⟩
          by_cases hoi : o = i
          · exact Or.inr (hoi ▸ o3)
          · exact Or.inl ⟨o, by omega, o2, o3⟩
        · rintro (⟨o, o1, o2⟩ | e)
          · exact ⟨o, by omega, o2⟩
          · exact ⟨i, by omega, hc, e⟩
      · simp (disch := omega) only [f_X8_markHanging_L31, HO2.2.1, nLt, hle, if_false, of_ok N hn HO2 hW2 (show i ≤ w by omega), hc, if_true, og_ok N HO2 (show i ≤ w by omega), obind, xst1_n, nI_1]
    · refine ⟨τ, ⟨hP.1, hP.2.cg fun j hj => ?_⟩, ?_⟩
      · constructor
        · rintro ⟨o, o1, o2, o3⟩
          by_cases hoi : o = i
          · exact absurd (hoi ▸ o2) hc
          · exact ⟨o, by omega, o2, o3⟩
        · rintro ⟨o, o1, o2⟩
          exact ⟨o, by omega, o2⟩
      · simp (disch := omega) only [f_X8_markHanging_L31, HO2.2.1, nLt, hle, if_false, of_ok N hn HO2 hW2 (show i ≤ w by omega), nEq, hc, obind, nI_1]
  · intro fu τ hP
    have HO2 := HO.fr hP.1 (by decide) (by decide)
    simp (disch := omega) only [f_X8_markHanging_L31, HO2.2.1, nLt, Nat.lt_succ_self, if_true]
theorem hang2 (N : Nat) (KO : Wd → Option Wd) {σ : Wd} {n : Nat} {kd l r den d ar : Nat → Nat} (hN : 512 < N) (H : GR σ n kd l r den) (hD : DA σ d ar) (hb : dab d ar) (hW : RW σ 32 n (fun k => TM d ar (den k))) {T : Nat → Prop} (h0 : BRow σ 34 n T) : ∃ τ, (Fr [34] σ τ ∧ BRow τ 34 n (fun j => ∃ o, o < n ∧ T o ∧ (HS d ar (den o)).2.2 (den j))) ∧ f_X8_markHanging_L73 N KO N (nI (n - 1)) σ = KO τ := by
  obtain ⟨hT, hn, -⟩ := id H
  have hRR := rr_hs (d := d) (ar := ar) hT lfC_ok
  have h27 := hT.1
  have key := lp_dn (g := fun fu i σ => f_X8_markHanging_L73 N KO fu (nI (i - 1)) σ) (E := KO) (P := fun i τ => Fr [34] σ τ ∧ i ≤ n ∧ ∃ u, BRow τ 34 n u ∧ MKv n l r den (fun k => TM d ar (den (l k)) = max (TM d ar (den (l k))) (TM d ar (den (r k)))) (fun k => TM d ar (den (r k)) = max (TM d ar (den (l k))) (TM d ar (den (r k)))) (fun s k => (HS d ar (den k)).2.2 s) T i u) (lo := 27) ?_ ?_ (n - 27) N n σ (by omega) (by omega) ⟨Fr.rf _ σ, Nat.le_refl n, T, h0, mkv_0 hRR⟩
  · obtain ⟨τ, ⟨h1, -, u, hu, hM⟩, e⟩ := key
    exact ⟨τ, ⟨h1, hu.cg fun j hj => (mkv_end hT hRR hM j hj).symm⟩, e⟩
  · intro fu i τ hi ⟨F, hin, u, hu, hM⟩
    have H2 := H.fr F (by decide) (by decide) (by decide) (by decide)
    have D2 := hD.fr F (by decide) (by decide)
    have W2 := hW.fr F (by decide)
    obtain ⟨-, -, -, -, g5, g6, -⟩ := id H2
    obtain ⟨a1, a2, a3, -⟩ := hT.2.2.1 i hi (by omega)
    have hlt : ¬ i < 27 := by omega
    rcases hu i (by omega) with ⟨u1, u2⟩ | ⟨u1, u2⟩
    · have hl := held_ok N H2 D2 hb W2 hi (show i < n by omega) (show l i < n by omega)
      by_cases c1 : TM d ar (den (l i)) = max (TM d ar (den (l i))) (TM d ar (den (r i)))
      · rw [if_pos c1] at hl
        have F1 : Fr [34] τ (sF τ 34 (l i) 1) := (Fr.rf _ τ).F (by decide)
        have hr := held_ok N (H2.fr F1 (by decide) (by decide) (by decide) (by decide)) (D2.fr F1 (by decide) (by decide)) hb (W2.fr F1 (by decide)) hi (show i < n by omega) (show r i < n by omega)
        have e20 : (sF τ 34 (l i) 1).1 20 i = nI (r i) := (sF_ne (by decide)).trans (g6 i hi (by omega))
        have e34 : (sF τ 34 (l i) 1).1 34 i = 1 := (sF_nb (by omega)).trans u2
        by_cases c2 : TM d ar (den (r i)) = max (TM d ar (den (l i))) (TM d ar (den (r i)))
        · rw [if_pos c2] at hr
          refine ⟨sF (sF τ 34 (l i) 1) 34 (r i) 1, ⟨(F.F (by decide)).F (by decide), by omega, _, hu.set.set, mkv_step hT hRR hi (by omega) hM fun j hj => ?_⟩, ?_⟩
          · simp only [u1, true_and, or_assoc, eq_true c1, eq_true c2]
          · simp (disch := omega) only [f_X8_markHanging_L73, f_X8_markHanging_J115, Nat.add_sub_cancel, L27, nLt, hlt, if_false, xld_n, obind, u2, show ¬ (1 : Int32) = 0 by decide, g5 i hi (by omega), hl, hr, xst1_n, e20, e34, nM1]
        · rw [if_neg c2] at hr
          refine ⟨sF τ 34 (l i) 1, ⟨F.F (by decide), by omega, _, hu.set, mkv_step hT hRR hi (by omega) hM fun j hj => ?_⟩, ?_⟩
          · simp only [u1, true_and, eq_true c1, eq_false c2, false_and, or_false]
          · simp (disch := omega) only [f_X8_markHanging_L73, f_X8_markHanging_J115, Nat.add_sub_cancel, L27, nLt, hlt, if_false, xld_n, obind, u2, show ¬ (1 : Int32) = 0 by decide, g5 i hi (by omega), hl, hr, xst1_n, e20, e34, nM1, if_true]
      · rw [if_neg c1] at hl
        have hr := held_ok N H2 D2 hb W2 hi (show i < n by omega) (show r i < n by omega)
        by_cases c2 : TM d ar (den (r i)) = max (TM d ar (den (l i))) (TM d ar (den (r i)))
        · rw [if_pos c2] at hr
          refine ⟨sF τ 34 (r i) 1, ⟨F.F (by decide), by omega, _, hu.set, mkv_step hT hRR hi (by omega) hM fun j hj => ?_⟩, ?_⟩
          · simp only [u1, true_and, eq_true c2, eq_false c1, false_and, false_or]
          · simp (disch := omega) only [f_X8_markHanging_L73, f_X8_markHanging_J115, Nat.add_sub_cancel, L27, nLt, hlt, if_false, xld_n, obind, u2, show ¬ (1 : Int32) = 0 by decide, g5 i hi (by omega), g6 i hi (by omega), hl, hr, xst1_n, nM1, if_true]
        · rw [if_neg c2] at hr
          refine ⟨τ, ⟨F, by omega, _, hu, mkv_step hT hRR hi (by omega) hM fun j hj => ?_⟩, ?_⟩
          · simp only [u1, true_and, eq_false c2, eq_false c1, false_and, or_false]
          · simp (disch := omega) only [f_X8_markHanging_L73, f_X8_markHanging_J115, Nat.add_sub_cancel, L27, nLt, hlt, if_false, xld_n, obind, u2, show ¬ (1 : Int32) = 0 by decide, g5 i hi (by omega), g6 i hi (by omega), hl, hr, nM1, if_true]
    · refine ⟨τ, ⟨F, by omega, u, hu, mkv_step hT hRR hi (by omega) hM fun j hj => ?_⟩, ?_⟩
      · simp only [u1, false_and, or_false]
      · simp (disch := omega) only [f_X8_markHanging_L73, f_X8_markHanging_J115, Nat.add_sub_cancel, L27, nLt, hlt, if_false, xld_n, obind, u2, if_true, nM1]
  · intro fu τ hP
    simp (disch := omega) only [f_X8_markHanging_L73, L27, nLt, show (27 - 1 < 27) = True by simp, if_true]
def hbits (f : Nat → Bool) : Nat → Nat
  | 0 => 0
  | i + 1 => hbits f i + if f i = true then 2 ^ i else 0
theorem hbits_lt (f : Nat → Bool) : ∀ i, hbits f i < 2 ^ i
  | 0 => by simp [hbits]
  | i + 1 => by have := hbits_lt f i; unfold hbits; rw [Nat.pow_succ]; split <;> omega
theorem hbits_le (f : Nat → Bool) {i k : Nat} (h : i ≤ k) : hbits f i < 2 ^ k := Nat.lt_of_lt_of_le (hbits_lt f i) (Nat.pow_le_pow_right (by decide) h)
theorem pow_in {i k : Nat} (h : i < k) : 2 ^ i < 2 ^ k := Nat.pow_lt_pow_right (by decide) h
theorem inputs_ok (N : Nat) (hN : 512 < N) {σ : Wd} {n : Nat} {u : Nat → Prop} (h27 : 27 ≤ n) (hu : BRow σ 34 n u) {f : Nat → Bool} (hf : ∀ i, i < 25 → (f i = true ↔ u (2 + i))) : f_X8_hangingInputs N σ = some (nI (hbits f 25), σ) := by
  unfold f_X8_hangingInputs
  obtain ⟨c, rfl, e⟩ := lp_up (g := fun fu i c => f_X8_hangingInputs_L4 N (f_X8_hangingInputs_J33 N) fu c (nI i) σ) (E := fun c => f_X8_hangingInputs_J33 N c σ) (P := fun i c => c = nI (hbits f i)) (m := 25) (fun fu i c hi hP => by
      subst hP
      have hle : ¬ 25 ≤ i := by omega
      have hb1 := hbits_le f (show i ≤ 32 by omega)
      have hb2 := pow_in (show i < 32 by omega)
      refine ⟨nI (hbits f (i + 1)), rfl, ?_⟩
      rcases hu (2 + i) (by omega) with ⟨u1, u2⟩ | ⟨u1, u2⟩
      · have hft := (hf i hi).mpr u1
        have hor : hbits f i ||| 1 * 2 ^ i = hbits f (i + 1) := by rw [or_add (hbits_lt f i), hbits, if_pos hft, Nat.one_mul]
        have hsh : (1 : Int32) <<< (nI i &&& 31) = nI (1 * 2 ^ i) := nI_shl (a := 1) (by omega) (by omega)
        simp (disch := omega) only [f_X8_hangingInputs_L4, L25, nLe, hle, if_false, L2, nI_add, xld_n, obind, u2, show ¬ (1 : Int32) = 0 by decide, hsh, nI_or, hor, nI_1]
      · have hff : ¬ f i = true := fun z => u1 ((hf i hi).mp z)
        rw [hbits, if_neg hff]
        simp (disch := omega) only [f_X8_hangingInputs_L4, L25, nLe, hle, if_false, L2, nI_add, xld_n, obind, u2, if_true, nI_1, Nat.add_zero]) (fun fu c hP => by
      simp (disch := omega) only [f_X8_hangingInputs_L4, L25, nLe, Nat.le_refl, if_true]) 25 N 0 0 (by omega) (by omega) rfl
  exact e
theorem hangs_ok (N : Nat) (hN : 512 < N) {σ : Wd} {n w : Nat} {kd l r den oz d ar : Nat → Nat} (H : GR σ n kd l r den) (HO : OG σ n den w oz) (hD : DA σ d ar) (hb : dab d ar) (hW : RW σ 32 n (fun k => TM d ar (den k))) {f : Nat → Bool} (hf : ∀ i, i < 25 → (f i = true ↔ ∃ j, j ≤ w ∧ TM d ar (den (oz j)) = mxT (fun i => TM d ar (den (oz i))) (w + 1) ∧ (HS d ar (den (oz j))).2.2 i)) :
    ∃ τ, f_X8_markHanging N σ = some τ ∧ Fr [34] σ τ ∧ f_X8_hangingInputs N τ = some (nI (hbits f 25), τ) := by
  obtain ⟨hT, hn, h45, -⟩ := id H
  have h27 := hT.1
  unfold f_X8_markHanging
  obtain ⟨τ1, ⟨F1, z1⟩, e1⟩ := hang0 N (f_X8_markHanging_J23 N) hn hN h45
  rw [e1]
  unfold f_X8_markHanging_J23
  have O1 := HO.fr F1 (by decide) (by decide)
  have W1 := hW.fr F1 (by decide)
  have hlt := mxT_lt (f := fun i => TM d ar (den (oz i))) (b := 1000000) (by omega) (w + 1) (fun j hj => (hW (oz j) (HO.2.2.2.2 j (by omega))).2)
  rw [last_ok N hN hn O1 W1, obind]
  obtain ⟨τ2, ⟨F2, z2⟩, e2⟩ := hang1 N (f_X8_markHanging_J66 N) hn hN O1 W1 z1 hlt
  dsimp only
  rw [e2]
  unfold f_X8_markHanging_J66
  have F12 := F1.tr F2
  have H2 := H.fr F12 (by decide) (by decide) (by decide) (by decide)
  obtain ⟨τ3, ⟨F3, z3⟩, e3⟩ := hang2 N (f_X8_markHanging_J157 N) hN H2 (hD.fr F12 (by decide) (by decide)) hb (hW.fr F12 (by decide)) z2
  rw [H2.2.2.1, show nI n - 1 = nI (n - 1) from nSub (b := 1) (by omega), e3]
  refine ⟨τ3, rfl, F12.tr F3, inputs_ok N hN h27 z3 fun i hi => ?_⟩
  rw [hf i hi]
  have hl : den (2 + i) = i := by
    rw [hT.2.1 (2 + i) (by omega)]
    unfold lfC
    rw [if_neg (by omega), if_neg (by omega)]; omega
  rw [hl]
  constructor
  · rintro ⟨j, j1, j2, j3⟩
    exact ⟨oz j, HO.2.2.2.2 j j1, ⟨j, by omega, j2, rfl⟩, j3⟩
  · rintro ⟨o, o1, ⟨j, j1, j2, rfl⟩, j3⟩
    exact ⟨j, by omega, j2, j3⟩
theorem depth_ok (N : Nat) (hN : 512 < N) {σ : Wd} {n w : Nat} {kd l r den oz d ar : Nat → Nat} (H : GR σ n kd l r den) (HO : OG σ n den w oz) (hD : DA σ d ar) (hb : dab d ar) (hW : RW σ 32 n (fun k => TM d ar (den k))) :
    ∃ τ, f_X8_deepest N σ = some (nI (mxT (fun i => if TM d ar (den (oz i)) = mxT (fun i => TM d ar (den (oz i))) (w + 1) then (DP d ar (den (oz i))).2 else 0) (w + 1)), τ) ∧ Fr [35] σ τ := by
  obtain ⟨hT, hn, h45, -⟩ := id H
  have h27 := hT.1
  have hw := HO.1
  unfold f_X8_deepest
  obtain ⟨τ1, ⟨F1, R1⟩, e1⟩ := lp_up (g := fun fu i σ => f_X8_deepest_L2 N (f_X8_deepest_J21 N) fu (nI i) σ) (E := f_X8_deepest_J21 N) (P := fun i τ => Fr [35] σ τ ∧ RW τ 35 i (fun k => (DP d ar (den k)).2)) (m := 27) (fun fu i τ hi hP => by
      have hle : ¬ 27 ≤ i := by omega
      have hz : (DP d ar (den i)).2 = 0 := by rw [dp_leaf hT lfC_ok hi]
      have hp := hP.2.put (show (DP d ar (den i)).2 < 1000000 by omega)
      rw [hz] at hp
      refine ⟨sF τ 35 i 0, ⟨hP.1.F (by decide), hp⟩, ?_⟩
      simp (disch := omega) only [f_X8_deepest_L2, L27, nLe, hle, if_false, xst_n, obind, nI_1]) (fun fu τ hP => by
      simp (disch := omega) only [f_X8_deepest_L2, L27, nLe, Nat.le_refl, if_true]) 27 N 0 σ (by omega) (by omega) ⟨Fr.rf _ σ, fun k hk => by omega⟩
  rw [show (0 : Int32) = nI 0 from rfl]
  refine (fun {P : Prop} (h : P) => h) ?_
  rw [e1]
  unfold f_X8_deepest_J21
  obtain ⟨τ2, ⟨-, F2, R2⟩, e2⟩ := lp_up (g := fun fu i σ => f_X8_deepest_L24 N (f_X8_deepest_J73 N) fu (nI i) σ) (E := f_X8_deepest_J73 N) (P := fun i τ => 27 ≤ i ∧ Fr [35] σ τ ∧ RW τ 35 i (fun k => (DP d ar (den k)).2)) (m := n) (fun fu i τ hi hP => by
      obtain ⟨hi27, F, R⟩ := hP
      have hle : ¬ n ≤ i := by omega
      have H2 := H.fr F (by decide) (by decide) (by decide) (by decide)
      have D2 := hD.fr F (by decide) (by decide)
      have W2 := hW.fr F (by decide)
      obtain ⟨a1, a2, a3, -⟩ := hT.2.2.1 i hi27 hi
      have hl := held_ok N H2 D2 hb W2 hi27 hi (show l i < n by omega)
      have hr := held_ok N H2 D2 hb W2 hi27 hi (show r i < n by omega)
      obtain ⟨b1, b2⟩ := dp_1 hT lfC_ok (d := d) (ar := ar) (l i) (by omega)
      obtain ⟨b3, b4⟩ := dp_1 hT lfC_ok (d := d) (ar := ar) (r i) (by omega)
      have hdp := dp_1 hT lfC_ok (d := d) (ar := ar) i hi
      have hp := R.put (show (DP d ar (den i)).2 < 1000000 by omega)
      have hg : (DP d ar (den i)).2 = 1 + max (if TM d ar (den (l i)) = max (TM d ar (den (l i))) (TM d ar (den (r i))) then (DP d ar (den (l i))).2 else 0) (if TM d ar (den (r i)) = max (TM d ar (den (l i))) (TM d ar (den (r i))) then (DP d ar (den (r i))).2 else 0) := by
        rw [dp_gate hT hi27 hi, b1, b3]
      have el : f_X8_depthBelow N (nI i) (nI (l i)) τ = some (nI (if TM d ar (den (l i)) = max (TM d ar (den (l i))) (TM d ar (den (r i))) then (DP d ar (den (l i))).2 else 0), τ) := by
        unfold f_X8_depthBelow
        rw [hl, obind]
        by_cases c : TM d ar (den (l i)) = max (TM d ar (den (l i))) (TM d ar (den (r i)))
        · rw [if_pos c, if_pos c]
          simp (disch := omega) only [show ¬ (1 : Int32) = 0 by decide, if_false, xld_n, obind, (R (l i) a2).1]
        · rw [if_neg c, if_neg c]
          simp only [if_true]; rfl
      have er : f_X8_depthBelow N (nI i) (nI (r i)) τ = some (nI (if TM d ar (den (r i)) = max (TM d ar (den (l i))) (TM d ar (den (r i))) then (DP d ar (den (r i))).2 else 0), τ) := by
        unfold f_X8_depthBelow
        rw [hr, obind]
        by_cases c : TM d ar (den (r i)) = max (TM d ar (den (l i))) (TM d ar (den (r i)))
        · rw [if_pos c, if_pos c]
          simp (disch := omega) only [show ¬ (1 : Int32) = 0 by decide, if_false, xld_n, obind, (R (r i) a3).1]
        · rw [if_neg c, if_neg c]
          simp only [if_true]; rfl
      have q1 : (if TM d ar (den (l i)) = max (TM d ar (den (l i))) (TM d ar (den (r i))) then (DP d ar (den (l i))).2 else 0) < 1000000 := by split <;> omega
      have q2 : (if TM d ar (den (r i)) = max (TM d ar (den (l i))) (TM d ar (den (r i))) then (DP d ar (den (r i))).2 else 0) < 1000000 := by split <;> omega
      refine ⟨sF τ 35 i (nI (DP d ar (den i)).2), ⟨by omega, F.F (by decide), hp⟩, ?_⟩
      rw [hg]
      simp (disch := omega) only [f_X8_deepest_L24, H2.2.2.1, nLe, hle, if_false, xld_n, obind, H2.2.2.2.2.1 i hi27 hi, H2.2.2.2.2.2.1 i hi27 hi, el, er, max_ok, L1, nI_add, xst_n]) (fun fu τ hP => by
      have h45 := (H.fr hP.2.1 (by decide) (by decide) (by decide) (by decide)).2.2.1
      simp (disch := omega) only [f_X8_deepest_L24, h45, nLe, Nat.le_refl, if_true]) (n - 27) N 27 τ1 (by omega) (by omega) ⟨by omega, F1, R1⟩
  rw [show (27 : Int32) = nI 27 from rfl, e2]
  unfold f_X8_deepest_J73
  have O2 := HO.fr F2 (by decide) (by decide)
  have W2 := hW.fr F2 (by decide)
  have hlt := mxT_lt (f := fun i => TM d ar (den (oz i))) (b := 1000000) (by omega) (w + 1) (fun j hj => (hW (oz j) (HO.2.2.2.2 j (by omega))).2)
  rw [last_ok N hN hn O2 W2, obind]
  dsimp only
  generalize hL : mxT (fun i => TM d ar (den (oz i))) (w + 1) = L at hlt ⊢
  obtain ⟨c, rfl, e3⟩ := lp_up (g := fun fu i c => f_X8_deepest_L84 N (f_X8_deepest_J126 N) fu (nI L) c (nI i) τ2) (E := fun c => f_X8_deepest_J126 N c τ2) (P := fun i c => c = nI (mxT (fun i => if TM d ar (den (oz i)) = L then (DP d ar (den (oz i))).2 else 0) i)) (m := w + 1) (fun fu i c hi hP => by
      subst hP
      have hle : ¬ w < i := by omega
      have hz := HO.2.2.2.2 i (by omega)
      obtain ⟨w1, w2⟩ := W2 (oz i) hz
      obtain ⟨r1, r2⟩ := R2 (oz i) hz
      dsimp only at w1 w2 r1 r2
      have hlt2 := mxT_lt (f := fun i => if TM d ar (den (oz i)) = L then (DP d ar (den (oz i))).2 else 0) (b := 1000000) (by omega) i (fun j hj => by
        have := (R2 (oz j) (HO.2.2.2.2 j (by omega))).2
        show (if _ then _ else _) < _
        split <;> omega)
      refine ⟨nI (mxT (fun i => if TM d ar (den (oz i)) = L then (DP d ar (den (oz i))).2 else 0) (i + 1)), rfl, ?_⟩
      by_cases hc : TM d ar (den (oz i)) = L
      · rw [mxT, if_pos hc]
        simp (disch := omega) only [f_X8_deepest_L84, O2.2.1, nLt, hle, if_false, of_ok N hn O2 W2 (show i ≤ w by omega), hc, if_true, og_ok N O2 (show i ≤ w by omega), obind, xld_n, r1, max_ok, nI_1]
      · rw [mxT, if_neg hc, Nat.max_eq_left (Nat.zero_le _)]
        simp (disch := omega) only [f_X8_deepest_L84, O2.2.1, nLt, hle, if_false, of_ok N hn O2 W2 (show i ≤ w by omega), nEq, hc, obind, nI_1]) (fun fu c hP => by
      simp (disch := omega) only [f_X8_deepest_L84, O2.2.1, nLt, Nat.lt_succ_self, if_true]) (w + 1) N 0 0 (by omega) (by omega) rfl
  exact ⟨τ2, e3, F2⟩
