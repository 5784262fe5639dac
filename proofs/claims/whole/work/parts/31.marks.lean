/-! Marks: what is reached along edges; the gates that are used, counted. -/
section MARKS
variable {lf : Nat → Nat} {n : Nat} {kd l r den : Nat → Nat} {el er : Nat → Prop} {R : Nat → Nat → Prop} {T : Nat → Prop}
def RR (n : Nat) (l r den : Nat → Nat) (el er : Nat → Prop) (R : Nat → Nat → Prop) : Prop :=
  (∀ k, k < 27 → k < n → ∀ s, R s k ↔ s = den k) ∧ (∀ k, 27 ≤ k → k < n → ∀ s, R s k ↔ s = den k ∨ (el k ∧ R s (l k)) ∨ (er k ∧ R s (r k)))
theorem RR.self (h : RR n l r den el er R) {k : Nat} (hk : k < n) : R (den k) k := by
  by_cases h27 : k < 27
  · exact (h.1 k h27 hk _).mpr rfl
  · exact (h.2 k (by omega) hk _).mpr (Or.inl rfl)
theorem RR.tr (hN : NT lf n kd l r den) (h : RR n l r den el er R) {p : Nat} (hp : p < n) {s : Nat} (hs : R s p) : ∀ o, o < n → R (den p) o → R s o := by
  intro o
  induction o using Nat.strongRecOn with
  | _ o ih =>
    intro ho hR
    by_cases h27 : o < 27
    · have := hN.2.2.2 p o hp ho ((h.1 o h27 ho _).mp hR)
      rw [← this]; exact hs
    · obtain ⟨a1, a2, a3, -⟩ := hN.2.2.1 o (by omega) ho
      rcases (h.2 o (by omega) ho _).mp hR with e | ⟨e1, e⟩ | ⟨e1, e⟩
      · have := hN.2.2.2 p o hp ho e
        rw [← this]; exact hs
      · exact (h.2 o (by omega) ho _).mpr (Or.inr (Or.inl ⟨e1, ih _ a2 (by omega) e⟩))
      · exact (h.2 o (by omega) ho _).mpr (Or.inr (Or.inr ⟨e1, ih _ a3 (by omega) e⟩))
def MKv (n : Nat) (l r den : Nat → Nat) (el er : Nat → Prop) (R : Nat → Nat → Prop) (T : Nat → Prop) (i : Nat) (u : Nat → Prop) : Prop :=
  (∀ j, j < n → u j → ∃ o, o < n ∧ T o ∧ R (den j) o) ∧ (∀ o, o < n → T o → u o) ∧ (∀ p, i ≤ p → 27 ≤ p → p < n → u p → (el p → u (l p)) ∧ (er p → u (r p)))
theorem mkv_0 (h : RR n l r den el er R) : MKv n l r den el er R T n T :=
  ⟨fun j hj hT => ⟨j, hj, hT, h.self hj⟩, fun o _ hT => hT, fun p h1 _ h3 _ => by omega⟩
theorem mkv_step (hN : NT lf n kd l r den) (h : RR n l r den el er R) {i : Nat} (h27 : 27 ≤ i) (hi : i < n) {u u' : Nat → Prop} (hM : MKv n l r den el er R T (i + 1) u)
    (hu : ∀ j, j < n → (u' j ↔ u j ∨ (u i ∧ ((el i ∧ j = l i) ∨ (er i ∧ j = r i))))) : MKv n l r den el er R T i u' := by
  obtain ⟨a1, a2, a3, -⟩ := hN.2.2.1 i h27 hi
  obtain ⟨m1, m2, m3⟩ := hM
  have hge : ∀ p, i ≤ p → p < n → (u' p ↔ u p) := fun p h1 h2 => by
    rw [hu p h2]
    refine ⟨fun z => z.elim id (fun z => ?_), Or.inl⟩
    rcases z.2 with ⟨-, e⟩ | ⟨-, e⟩ <;> omega
  refine ⟨fun j hj hj2 => ?_, fun o ho hT => (hu o ho).mpr (Or.inl (m2 o ho hT)), fun p p1 p2 p3 p4 => ?_⟩
  · rcases (hu j hj).mp hj2 with e | ⟨e, e2⟩
    · exact m1 j hj e
    · obtain ⟨o, o1, o2, o3⟩ := m1 i hi e
      refine ⟨o, o1, o2, h.tr hN hi ?_ o o1 o3⟩
      rcases e2 with ⟨e2, rfl⟩ | ⟨e2, rfl⟩
      · exact (h.2 i h27 hi _).mpr (Or.inr (Or.inl ⟨e2, h.self hj⟩))
      · exact (h.2 i h27 hi _).mpr (Or.inr (Or.inr ⟨e2, h.self hj⟩))
  · have hup := (hge p p1 p3).mp p4
    by_cases hpi : p = i
    · subst hpi
      exact ⟨fun e => (hu _ (by omega)).mpr (Or.inr ⟨hup, Or.inl ⟨e, rfl⟩⟩), fun e => (hu _ (by omega)).mpr (Or.inr ⟨hup, Or.inr ⟨e, rfl⟩⟩)⟩
    · obtain ⟨b1, b2, b3, -⟩ := hN.2.2.1 p p2 p3
      obtain ⟨c1, c2⟩ := m3 p (by omega) p2 p3 hup
      exact ⟨fun e => (hu _ (by omega)).mpr (Or.inl (c1 e)), fun e => (hu _ (by omega)).mpr (Or.inl (c2 e))⟩
theorem mkv_end (hN : NT lf n kd l r den) (h : RR n l r den el er R) {u : Nat → Prop} (hM : MKv n l r den el er R T 27 u) : ∀ j, j < n → (u j ↔ ∃ o, o < n ∧ T o ∧ R (den j) o) := by
  obtain ⟨m1, m2, m3⟩ := hM
  have key : ∀ p, p < n → u p → ∀ s, R s p → ∃ j, j < n ∧ s = den j ∧ u j := by
    intro p
    induction p using Nat.strongRecOn with
    | _ p ih =>
      intro hp hu s hs
      by_cases hp2 : p < 27
      · exact ⟨p, hp, (h.1 p hp2 hp s).mp hs, hu⟩
      · obtain ⟨a1, a2, a3, -⟩ := hN.2.2.1 p (by omega) hp
        obtain ⟨c1, c2⟩ := m3 p (by omega) (by omega) hp hu
        rcases (h.2 p (by omega) hp s).mp hs with e | ⟨e1, e⟩ | ⟨e1, e⟩
        · exact ⟨p, hp, e, hu⟩
        · exact ih _ a2 (by omega) (c1 e1) s e
        · exact ih _ a3 (by omega) (c2 e1) s e
  intro j hj
  refine ⟨m1 j hj, fun ⟨o, h1, h2, h3⟩ => ?_⟩
  obtain ⟨i, i1, i2, i3⟩ := key o h1 (m2 o h1 h2) _ h3
  rw [hN.2.2.2 j i hj i1 i2]
  exact i3
theorem rr_sub (hN : NT lf n kd l r den) (hlf : LF lf) : RR n l r den (fun _ => True) (fun _ => True) (fun s k => sub s (den k)) :=
  ⟨fun k h1 _ s => sub_leaf hN hlf h1 s, fun k h1 h2 s => by simp only [true_and]; exact sub_gate hN hlf h1 h2 s⟩
end MARKS
/-- a row of truth values -/
def BRow (σ : Wd) (K n : Nat) (u : Nat → Prop) : Prop := ∀ j, j < n → (u j ∧ σ.1 K j = 1) ∨ (¬ u j ∧ σ.1 K j = 0)
theorem BRow.cg {σ : Wd} {K n : Nat} {u v : Nat → Prop} (h : BRow σ K n u) (hv : ∀ j, j < n → (v j ↔ u j)) : BRow σ K n v := fun j hj => by
  rw [hv j hj]; exact h j hj
theorem BRow.set {σ : Wd} {K n z : Nat} {u : Nat → Prop} (h : BRow σ K n u) : BRow (sF σ K z 1) K n (fun j => u j ∨ j = z) := fun j hj => by
  by_cases hz : j = z
  · subst hz; exact Or.inl ⟨Or.inr rfl, sF_eq⟩
  · rw [sF_nb hz]
    rcases h j hj with ⟨a, b⟩ | ⟨a, b⟩
    · exact Or.inl ⟨Or.inl a, b⟩
    · exact Or.inr ⟨fun q => q.elim a hz, b⟩
theorem BRow.fr {σ τ : Wd} {ks : List Nat} {K n : Nat} {u : Nat → Prop} (h : BRow σ K n u) (F : Fr ks σ τ) (hK : K ∉ ks) : BRow τ K n u := fun j hj => by
  rw [F.i hK]; exact h j hj
theorem mark0 (N : Nat) (KO : Wd → Option Wd) {σ : Wd} {n : Nat} (hn : n ≤ 512) (hN : 512 < N) (h45 : σ.1 4 5 = nI n) : ∃ τ, (Fr [21] σ τ ∧ ∀ j, j < n → τ.1 21 j = 0) ∧ f_X2_markUsed_L2 N KO N 0 σ = KO τ := by
  refine lp_up (g := fun fu i σ => f_X2_markUsed_L2 N KO fu (nI i) σ) (E := KO) (P := fun i τ => Fr [21] σ τ ∧ ∀ j, j < i → τ.1 21 j = 0) (m := n) ?_ ?_ n N 0 σ (by omega) (by omega) ⟨Fr.rf _ σ, fun j hj => by omega⟩
  · intro fu i τ hi hP
    have e := hP.1.i (a := 4) (by decide) 5
    have hle : ¬ n ≤ i := by omega
    refine ⟨sF τ 21 i 0, ⟨hP.1.F (by decide), fun j hj => ?_⟩, ?_⟩
    · by_cases hji : j = i
      · subst hji; exact sF_eq
      · rw [sF_nb hji]; exact hP.2 j (by omega)
    · simp (disch := omega) only [f_X2_markUsed_L2, e, h45, nLe, hle, if_false, xst0_n, obind, nAddR]
  · intro fu τ hP
    have e := hP.1.i (a := 4) (by decide) 5
    simp (disch := omega) only [f_X2_markUsed_L2, e, h45, nLe, Nat.le_refl, if_true]
theorem mark1 (N : Nat) (KO : Wd → Option Wd) {σ : Wd} {n w : Nat} {den oz : Nat → Nat} (hn : n ≤ 512) (hN : 512 < N) (HO : OG σ n den w oz) (h0 : ∀ j, j < n → σ.1 21 j = 0) : ∃ τ, (Fr [21] σ τ ∧ BRow τ 21 n (fun j => ∃ i, i < w + 1 ∧ j = oz i)) ∧ f_X2_markUsed_L25 N KO N 0 σ = KO τ := by
  have hw := HO.1
  refine lp_up (g := fun fu i σ => f_X2_markUsed_L25 N KO fu (nI i) σ) (E := KO) (P := fun i τ => Fr [21] σ τ ∧ BRow τ 21 n (fun j => ∃ o, o < i ∧ j = oz o)) (m := w + 1) ?_ ?_ (w + 1) N 0 σ (by omega) (by omega) ⟨Fr.rf _ σ, fun j hj => Or.inr ⟨fun ⟨o, o1, o2⟩ => by omega, h0 j hj⟩⟩
  · intro fu i τ hi hP
    have HO2 := HO.fr hP.1 (by decide) (by decide)
    have hle : ¬ w < i := by omega
    have hz := HO.2.2.2.2 i (by omega)
    refine ⟨sF τ 21 (oz i) 1, ⟨hP.1.F (by decide), hP.2.set.cg fun j hj => ?_⟩, ?_⟩
    · constructor
      · rintro ⟨o, o1, o2⟩
        by_cases hoi : o = i
        · exact Or.inr (hoi ▸ o2)
        · exact Or.inl ⟨o, by omega, o2⟩
      · rintro (⟨o, o1, o2⟩ | e)
        · exact ⟨o, by omega, o2⟩
        · exact ⟨i, by omega, e⟩
    · simp (disch := omega) only [f_X2_markUsed_L25, HO2.2.1, nLt, hle, if_false, og_ok N HO2 (show i ≤ w by omega), obind, xst1_n, nAddR]
  · intro fu τ hP
    have HO2 := HO.fr hP.1 (by decide) (by decide)
    simp (disch := omega) only [f_X2_markUsed_L25, HO2.2.1, nLt, Nat.lt_succ_self, if_true]
theorem mark2 (N : Nat) (KO : Wd → Option Wd) {σ : Wd} {n : Nat} {kd l r den : Nat → Nat} (hN : 512 < N) (H : GR σ n kd l r den) {T : Nat → Prop} (h0 : BRow σ 21 n T) : ∃ τ, (Fr [21] σ τ ∧ BRow τ 21 n (fun j => ∃ o, o < n ∧ T o ∧ sub (den j) (den o))) ∧ f_X2_markUsed_L57 N KO N (nI (n - 1)) σ = KO τ := by
  obtain ⟨hT, hn, -⟩ := id H
  have hRR := rr_sub hT lfC_ok
  have h27 := hT.1
  have key := lp_dn (g := fun fu i σ => f_X2_markUsed_L57 N KO fu (nI (i - 1)) σ) (E := KO) (P := fun i τ => Fr [21] σ τ ∧ i ≤ n ∧ ∃ u, BRow τ 21 n u ∧ MKv n l r den (fun _ => True) (fun _ => True) (fun s k => sub s (den k)) T i u) (lo := 27) ?_ ?_ (n - 27) N n σ (by omega) (by omega) ⟨Fr.rf _ σ, Nat.le_refl n, T, h0, mkv_0 hRR⟩
  · obtain ⟨τ, ⟨h1, -, u, hu, hM⟩, e⟩ := key
    exact ⟨τ, ⟨h1, hu.cg fun j hj => (mkv_end hT hRR hM j hj).symm⟩, e⟩
  · intro fu i τ hi ⟨F, hin, u, hu, hM⟩
    obtain ⟨-, -, -, -, g5, g6, -⟩ := H.fr F (by decide) (by decide) (by decide) (by decide)
    obtain ⟨a1, a2, a3, -⟩ := hT.2.2.1 i hi (by omega)
    have hlt : ¬ i < 27 := by omega
    rcases hu i (by omega) with ⟨u1, u2⟩ | ⟨u1, u2⟩
    · refine ⟨sF (sF τ 21 (l i) 1) 21 (r i) 1, ⟨(F.F (by decide)).F (by decide), by omega, _, hu.set.set, mkv_step hT hRR hi (by omega) hM fun j hj => ?_⟩, ?_⟩
      · simp only [u1, true_and, or_assoc]
      · have e20 : (sF τ 21 (l i) 1).1 20 i = nI (r i) := (sF_ne (by decide)).trans (g6 i hi (by omega))
        simp (disch := omega) only [f_X2_markUsed_L57, Nat.add_sub_cancel, L27, nLt, hlt, if_false, xld_n, obind, u2, show ¬ (1 : Int32) = 0 by decide, g5 i hi (by omega), xst1_n, e20, nM1]
    · refine ⟨τ, ⟨F, by omega, u, hu, mkv_step hT hRR hi (by omega) hM fun j hj => ?_⟩, ?_⟩
      · simp only [u1, false_and, or_false]
      · simp (disch := omega) only [f_X2_markUsed_L57, Nat.add_sub_cancel, L27, nLt, hlt, if_false, xld_n, obind, u2, if_true, nM1]
  · intro fu τ hP
    simp (disch := omega) only [f_X2_markUsed_L57, L27, nLt, show (27 - 1 < 27) = True by simp, if_true]
theorem markUsed_ok (N : Nat) (hN : 512 < N) {σ : Wd} {n w : Nat} {kd l r den oz : Nat → Nat} (H : GR σ n kd l r den) (HO : OG σ n den w oz) : ∃ τ, f_X2_markUsed N σ = some τ ∧ Fr [21] σ τ ∧ BRow τ 21 n (fun j => ∃ o, o < n ∧ (∃ i, i < w + 1 ∧ o = oz i) ∧ sub (den j) (den o)) := by
  unfold f_X2_markUsed
  obtain ⟨τ1, ⟨F1, z1⟩, e1⟩ := mark0 N (f_X2_markUsed_J23 N) H.2.1 hN H.2.2.1
  rw [e1]
  unfold f_X2_markUsed_J23
  obtain ⟨τ2, ⟨F2, z2⟩, e2⟩ := mark1 N (f_X2_markUsed_J50 N) H.2.1 hN (HO.fr F1 (by decide) (by decide)) z1
  rw [e2]
  unfold f_X2_markUsed_J50
  have H2 := H.fr (F1.tr F2) (by decide) (by decide) (by decide) (by decide)
  obtain ⟨τ3, ⟨F3, z3⟩, e3⟩ := mark2 N (f_X2_markUsed_J102 N) hN H2 z2
  have h27 := H.1.1
  rw [H2.2.2.1, show nI n - 1 = nI (n - 1) from nSub (b := 1) (by omega), e3]
  exact ⟨τ3, rfl, (F1.tr F2).tr F3, z3⟩
