section
/-! On what the reference's outcomes hang; the gates of two plans; sweeps. -/
theorem hang_right (N : Nat) (KB : Int32 → Wd → Option (Int32 × Wd)) (KO : Wd → Option (Int32 × Wd)) {σ : Wd} {n : Nat} {kd l r den d ar X : Nat → Nat} (H : MNet σ n kd l r den) (hR : RW σ 57 n (fun k => TM d ar (den k))) (hX : XB 2 X) {u : Nat → Prop} (hU : UP σ 2 X u) {k M : Nat} (hM : M < 1000000) (hk : 27 ≤ k) (hn : k < n) {σ0 : Wd} {y1 y2 y3 : Int32} (h0 : xst σ0 56 2048 y1 (y2 ||| y3) = some σ) :
    ∃ τ, f_X10_hangs_J143 N KB KO (nI k) (nI M) y1 y2 y3 σ0 = KB (nI (k - 1)) τ ∧ FrM [56] [] σ τ ∧ UP τ 2 X (fun j => u j ∨ (u k ∧ TM d ar (den (r k)) = M ∧ j = r k)) := by
  obtain ⟨hT, hn2, -, -, hg⟩ := id H
  obtain ⟨g1, g2, g3, -⟩ := hg k hk hn
  obtain ⟨a1, a2, a3, -⟩ := hT.2.2.1 k hk hn
  obtain ⟨r1, r2⟩ := hR (r k) (by omega)
  dsimp only at r1 r2
  unfold f_X10_hangs_J143
  rw [h0, obind, xld_n (by omega) (by omega), obind, g3, xld_n (by omega) (by omega), obind, obind, xld_n (by omega) (by omega), obind, r1]
  by_cases c1 : TM d ar (den (r k)) = M
  · rw [if_pos (by rw [c1]), xld_n (by omega) (by omega), obind, show (2 : Int32) = nI 2 from rfl]
    rcases hU.and hX (z := k) (by omega) with ⟨u1, u2⟩ | ⟨u1, u2⟩
    · rw [u2, hU.or hX (by omega), xst_n (by omega) (by omega), obind, nM1 (by omega)]
      exact ⟨_, rfl, (FrM.rf _ _ σ).F (by decide) (by decide), hU.set.cg fun j hj => by simp only [u1, c1, true_and]⟩
    · rw [u2, hU.or0 hX (by omega), xst_n (by omega) (by omega), obind, sF_id, nM1 (by omega)]
      exact ⟨_, rfl, FrM.rf _ _ σ, hU.cg fun j hj => by simp only [u1, false_and, or_false]⟩
  · rw [if_neg (neN (by omega) (by omega) c1), show (0 : Int32) = nI 0 from rfl, hU.or0 hX (by omega), xst_n (by omega) (by omega), obind, sF_id, nM1 (by omega)]
    exact ⟨_, rfl, FrM.rf _ _ σ, hU.cg fun j hj => by simp only [c1, false_and, and_false, or_false]⟩
theorem hang_2 (N : Nat) (hN : 2048 < N) (KO : Wd → Option (Int32 × Wd)) {σ : Wd} {n : Nat} {kd l r den d ar X : Nat → Nat} (H : MNet σ n kd l r den) (hD : MDA σ d ar) (hb : dab d ar) (hR : RW σ 57 n (fun k => TM d ar (den k))) (hX : XB 2 X) {T : Nat → Prop} (hTn : ∀ j, T j → j < n) (h0 : UP σ 2 X T) : ∃ τ, (FrM [56] [] σ τ ∧ UP τ 2 X (fun j => j < n ∧ ∃ o, o < n ∧ T o ∧ (HS d ar (den o)).2.2 (den j))) ∧ f_X10_hangs_L77 N KO N (nI (n - 1)) σ = KO τ := by
  obtain ⟨hT, hn, -⟩ := id H
  have hRR := rr_hs (d := d) (ar := ar) hT lfM_ok
  have h27 := hT.1
  have key := lp_dn (g := fun fu i σ => f_X10_hangs_L77 N KO fu (nI (i - 1)) σ) (E := KO) (P := fun i τ => FrM [56] [] σ τ ∧ i ≤ n ∧ ∃ u, (∀ j, u j → j < n) ∧ UP τ 2 X u ∧ MKv n l r den (fun k => TM d ar (den (l k)) = max (TM d ar (den (l k))) (TM d ar (den (r k)))) (fun k => TM d ar (den (r k)) = max (TM d ar (den (l k))) (TM d ar (den (r k)))) (fun s k => (HS d ar (den k)).2.2 s) T i u) (lo := 27) ?_ ?_ (n - 27) N n σ (by omega) (by omega) ⟨FrM.rf _ _ σ, Nat.le_refl n, T, hTn, h0, mkv_0 hRR⟩
  · obtain ⟨τ, ⟨h1, -, u, hun, hu, hM⟩, e⟩ := key
    exact ⟨τ, ⟨h1, hu.cg fun j hj => ⟨fun ⟨z1, z2⟩ => (mkv_end hT hRR hM j z1).mpr z2, fun z => ⟨hun j z, (mkv_end hT hRR hM j (hun j z)).mp z⟩⟩⟩, e⟩
  · intro fu i τ hi ⟨F, hin, u, hun, hu, hM⟩
    have H2 := H.fr F (by decide) (by decide) (by decide) (by decide)
    have D2 := hD.fr F (by decide) (by decide)
    have R2 := hR.frm F (by decide) (by decide)
    obtain ⟨g1, g2, g3, -⟩ := H2.2.2.2.2 i hi (by omega)
    obtain ⟨a1, a2, a3, -⟩ := hT.2.2.1 i hi (by omega)
    obtain ⟨r1, r2⟩ := R2 (l i) (by omega)
    obtain ⟨r3, r4⟩ := R2 (r i) (by omega)
    obtain ⟨r5, r6⟩ := R2 i (by omega)
    dsimp only at r1 r2 r3 r4 r5 r6
    have hgt := tm_gate hT (d := d) (ar := ar) hi (show i < n by omega)
    have hah : nI (TM d ar (den i)) - nI (d (kd i)) = nI (max (TM d ar (den (l i))) (TM d ar (den (r i)))) := by
      rw [hgt, nSub (by omega)]; congr 1; omega
    generalize hA : TM d ar (den (l i)) = A at *
    generalize hB : TM d ar (den (r i)) = B at *
    have step : ∀ (τ1 : Wd) (u1 : Nat → Prop) (y3 : Int32), xst τ 56 2048 (nI (l i)) (τ.1 56 (l i) ||| y3) = some τ1 → FrM [56] [] τ τ1 → UP τ1 2 X u1 → (∀ j, u1 j ↔ u j ∨ (u i ∧ A = max A B ∧ j = l i)) → ∃ s', (FrM [56] [] σ s' ∧ i ≤ n ∧ ∃ u, (∀ j, u j → j < n) ∧ UP s' 2 X u ∧ MKv n l r den (fun k => TM d ar (den (l k)) = max (TM d ar (den (l k))) (TM d ar (den (r k)))) (fun k => TM d ar (den (r k)) = max (TM d ar (den (l k))) (TM d ar (den (r k)))) (fun s k => (HS d ar (den k)).2.2 s) T i u) ∧ f_X10_hangs_J143 N (f_X10_hangs_L77 N KO fu) KO (nI i) (nI (max A B)) (nI (l i)) (τ.1 56 (l i)) y3 τ = f_X10_hangs_L77 N KO fu (nI (i - 1)) s' := by
      intro τ1 u1 y3 hst F1 U1 hu1
      obtain ⟨τ2, e2, F2, U2⟩ := hang_right N (f_X10_hangs_L77 N KO fu) KO (H2.fr F1 (by decide) (by decide) (by decide) (by decide)) (R2.frm F1 (by decide) (by decide)) hX U1 (k := i) (M := max A B) (by omega) hi (by omega) hst
      refine ⟨τ2, ⟨(F.tr F1).tr F2, by omega, _, fun j hj => ?_, U2, mkv_step hT hRR hi (by omega) hM fun j hj => ?_⟩, e2⟩
      · rcases hj with h | ⟨h1, h2, h3⟩
        · rcases (hu1 j).mp h with q | ⟨q1, q2, q3⟩
          · exact hun j q
          · omega
        · omega
      · have hui : u1 i ↔ u i := by rw [hu1]; exact ⟨fun z => z.elim id (fun z => by omega), Or.inl⟩
        rw [hu1, hui, hA, hB]
        constructor
        · rintro ((q | ⟨q1, q2, q3⟩) | ⟨q1, q2, q3⟩)
          · exact Or.inl q
          · exact Or.inr ⟨q1, Or.inl ⟨q2, q3⟩⟩
          · exact Or.inr ⟨q1, Or.inr ⟨q2, q3⟩⟩
        · rintro (q | ⟨q1, ⟨q2, q3⟩ | ⟨q2, q3⟩⟩)
          · exact Or.inl (Or.inl q)
          · exact Or.inl (Or.inr ⟨q1, q2, q3⟩)
          · exact Or.inr ⟨q1, q2, q3⟩
    rw [f_X10_hangs_L77, Nat.add_sub_cancel, if_neg (show ¬ nI i < 27 from fun z => by have := (nLt (b := 27) (by omega) (by omega)).mp z; omega), xld_n (by omega) (by omega), obind, r5, xld_n (by omega) (by omega), obind, g1, xld_n (by omega) (by omega), obind, D2.1 _ a1, hah, xld_n (by omega) (by omega), obind, g2, xld_n (by omega) (by omega), obind, obind, xld_n (by omega) (by omega), obind, r1]
    by_cases c1 : A = max A B
    · rw [if_pos (by rw [← c1]), xld_n (by omega) (by omega), obind, show (2 : Int32) = nI 2 from rfl]
      rcases hu.and hX (z := i) (by omega) with ⟨u1, u2⟩ | ⟨u1, u2⟩
      · rw [u2]
        exact step _ _ _ (by rw [hu.or hX (by omega), xst_n (by omega) (by omega)]) ((FrM.rf _ _ τ).F (by decide) (by decide)) hu.set (fun j => by simp only [u1, true_and, eq_true c1])
      · rw [u2]
        exact step τ u _ (by rw [hu.or0 hX (by omega), xst_n (by omega) (by omega), sF_id]) (FrM.rf _ _ τ) hu (fun j => by simp only [u1, false_and, or_false])
    · rw [if_neg (neN (by omega) (by omega) c1), show (0 : Int32) = nI 0 from rfl]
      exact step τ u _ (by rw [hu.or0 hX (by omega), xst_n (by omega) (by omega), sF_id]) (FrM.rf _ _ τ) hu (fun j => by simp only [eq_false c1, false_and, and_false, or_false])
  · intro fu τ hP
    rw [f_X10_hangs_L77, if_pos (show nI (27 - 1) < 27 from (nLt (b := 27) (by omega) (by omega)).mpr (by omega))]
theorem has1 : ∀ x, x < 4 → ∀ y, y < 1 → (nI x >>> ((1 : Int32) &&& 31)) &&& (1 : Int32) = nI (x / 2 % 2) := by decide +kernel
theorem m_hangs (N : Nat) (hN : 2048 < N) {σ : Wd} {n : Nat} {kd l r den oz d ar : Nat → Nat} {bs : Blk} (H : LDp σ n kd l r den oz bs d ar) (hD : MDA σ d ar) (hb : dab d ar) : ∃ τ, f_X10_hangs_L22 N (f_X10_hangs_J70 N) N (nI (aLast bs d ar)) 0 σ = some (nI (aHang bs d ar), τ) ∧ FrM [56] [] σ τ := by
  classical
  obtain ⟨HN, HO, HD, HU, HR, -⟩ := id H
  have hw := HO.1
  have hn := HN.2.1
  have h27 := HN.1.1
  obtain ⟨-, hlast⟩ := m_last N hN H
  obtain ⟨X, hX⟩ : ∃ X : Nat → Nat, X = fun j => if j < n ∧ ∃ o, o < n ∧ (∃ i, i < wid bs + 1 ∧ o = oz i) ∧ sub (den j) (den o) then 1 else 0 := ⟨_, rfl⟩
  have hX2 : ∀ j, X j ≤ 1 := fun j => by rw [hX]; dsimp only; split <;> omega
  have hXB : XB 2 X := ⟨Or.inr rfl, fun j => ⟨by have := hX2 j; omega, by
    have : X j = 0 ∨ X j = 1 := by have := hX2 j; omega
    rcases this with q | q <;> rw [q] <;> decide⟩⟩
  have hU0 : UP σ 2 X (fun _ => False) := fun j hj => Or.inr ⟨fun z => z, by
    rw [hX]
    dsimp only
    rcases HU j hj with ⟨a, b⟩ | ⟨a, b⟩
    · rw [if_pos a]; exact b.trans (congrArg nI (show (0 ||| 1 : Nat) = 1 by decide))
    · rw [if_neg a]; exact b⟩
  obtain ⟨τ1, ⟨F1, U1⟩, e1⟩ := lp_up (g := fun fu i s => f_X10_hangs_L22 N (f_X10_hangs_J70 N) fu (nI (aLast bs d ar)) (nI i) s) (E := fun s => f_X10_hangs_J70 N s) (P := fun i τ => FrM [56] [] σ τ ∧ UP τ 2 X (fun j => ∃ o, o < i ∧ oTM bs d ar o = aLast bs d ar ∧ j = oz o)) (m := wid bs + 1) (fun fu i τ hi ⟨F, U⟩ => by
      have O2 := HO.fr F (by decide) (by decide)
      have R2 := HR.frm F (by decide) (by decide)
      have hz := HO.2.2.2 i hi
      obtain ⟨r1, r2⟩ := R2 (oz i) hz
      dsimp only at r1 r2
      rw [ld_tm H hi] at r1 r2
      rw [f_X10_hangs_L22, O2.2.1, if_neg (fun z => by have := (nLe (by omega) (by omega)).mp z; omega), xld_n (by omega) (by omega), obind, O2.2.2.1 i hi, xld_n (by omega) (by omega), obind, obind, xld_n (by omega) (by omega), obind, r1]
      by_cases c1 : oTM bs d ar i = aLast bs d ar
      · rw [if_pos (by rw [c1]), show (2 : Int32) = nI 2 from rfl, U.or hXB (by omega), xst_n (by omega) (by omega), obind, nI_1]
        refine ⟨_, ⟨F.F (by decide) (by decide), U.set.cg fun j hj => ?_⟩, rfl⟩
        constructor
        · rintro ⟨o, o1, o2, o3⟩
          by_cases hoi : o = i
          · exact Or.inr (hoi ▸ o3)
          · exact Or.inl ⟨o, by omega, o2, o3⟩
        · rintro (⟨o, o1, o2⟩ | e)
          · exact ⟨o, by omega, o2⟩
          · exact ⟨i, by omega, c1, e⟩
      · rw [if_neg (neN (by omega) (by omega) c1), show (0 : Int32) = nI 0 from rfl, U.or0 hXB (by omega), xst_n (by omega) (by omega), obind, sF_id, nI_1]
        refine ⟨_, ⟨F, U.cg fun j hj => ?_⟩, rfl⟩
        constructor
        · rintro ⟨o, o1, o2, o3⟩
          by_cases hoi : o = i
          · exact absurd (hoi ▸ o2) c1
          · exact ⟨o, by omega, o2, o3⟩
        · rintro ⟨o, o1, o2⟩
          exact ⟨o, by omega, o2⟩) (fun fu τ ⟨F, U⟩ => by
      have O2 := HO.fr F (by decide) (by decide)
      rw [f_X10_hangs_L22, O2.2.1, if_pos ((nLe (by omega) (by omega)).mpr (Nat.le_refl _))]) (wid bs + 1) N 0 σ (by omega) (by omega) ⟨FrM.rf _ _ σ, hU0.cg fun j hj => ⟨fun ⟨o, o1, o2⟩ => by omega, fun z => absurd z (fun z => z)⟩⟩
  have e1' : f_X10_hangs_L22 N (f_X10_hangs_J70 N) N (nI (aLast bs d ar)) 0 σ = f_X10_hangs_J70 N τ1 := e1
  rw [e1']
  unfold f_X10_hangs_J70
  have H1 := HN.fr F1 (by decide) (by decide) (by decide) (by decide)
  obtain ⟨τ2, ⟨F2, U2⟩, e2⟩ := hang_2 N hN (f_X10_hangs_J193 N) H1 (hD.fr F1 (by decide) (by decide)) hb (HR.frm F1 (by decide) (by decide)) hXB (fun j ⟨o, o1, o2, o3⟩ => by rw [o3]; exact HO.2.2.2 o o1) U1
  rw [H1.2.2.1, show nI n - 1 = nI (n - 1) from nSub (b := 1) (by omega), e2]
  unfold f_X10_hangs_J193
  refine ⟨τ2, ?_, F1.tr F2⟩
  unfold aHang
  have hfi : ∀ i, i < 25 → (decide (∃ j, j ≤ wid bs ∧ oTM bs d ar j = aLast bs d ar ∧ (HS d ar (outT (nets bs) j)).2.2 i) = true ↔ (i < n ∧ ∃ o, o < n ∧ (∃ o', o' < wid bs + 1 ∧ oTM bs d ar o' = aLast bs d ar ∧ o = oz o') ∧ (HS d ar (den o)).2.2 (den i))) := fun i hi => by
    rw [decide_eq_true_eq, show den i = i from HN.1.2.1 i (by omega)]
    constructor
    · rintro ⟨j, j1, j2, j3⟩
      exact ⟨by omega, oz j, HO.2.2.2 j (by omega), ⟨j, by omega, j2, rfl⟩, by rw [HD j (by omega)]; exact j3⟩
    · rintro ⟨-, o, o1, ⟨j, j1, j2, rfl⟩, j3⟩
      exact ⟨j, by omega, j2, by rw [← HD j j1]; exact j3⟩
  generalize hf : (fun i => decide (∃ j, j ≤ wid bs ∧ oTM bs d ar j = aLast bs d ar ∧ (HS d ar (outT (nets bs) j)).2.2 i)) = f
  have hfi2 : ∀ i, i < 25 → (f i = true ↔ (i < n ∧ ∃ o, o < n ∧ (∃ o', o' < wid bs + 1 ∧ oTM bs d ar o' = aLast bs d ar ∧ o = oz o') ∧ (HS d ar (den o)).2.2 (den i))) := fun i hi => by rw [← hf]; exact hfi i hi
  obtain ⟨c, rfl, e⟩ := lp_up (g := fun fu i c => f_X10_hangs_L198 N (f_X10_hangs_J236 N) fu c (nI i) τ2) (E := fun c => f_X10_hangs_J236 N c τ2) (P := fun i c => c = nI (hbits f i)) (m := 25) (fun fu i c hi hc => by
      subst hc
      have hb1 := hbits_le f (show i ≤ 32 by omega)
      have hb2 := pow_in (show i < 32 by omega)
      have hXi := hX2 i
      refine ⟨nI (hbits f (i + 1)), rfl, ?_⟩
      rw [f_X10_hangs_L198, if_neg (show ¬ (24 : Int32) < nI i from fun z => by have := (nLt (a := 24) (by omega) (by omega)).mp z; omega), xld_n (by omega) (by omega), obind]
      unfold f_X10_has
      have hx4 := or4m (X i) (by omega) 2 (by omega)
      rcases U2 i (by omega) with ⟨u1, u2⟩ | ⟨u1, u2⟩
      · have hft := (hfi2 i hi).mpr u1
        have hor : hbits f i ||| 1 * 2 ^ i = hbits f (i + 1) := by rw [or_add (hbits_lt f i), hbits, if_pos hft, Nat.one_mul]
        have hsh : (1 : Int32) <<< (nI i &&& 31) = nI (1 * 2 ^ i) := nI_shl (a := 1) (by omega) (by omega)
        have hq : (X i ||| 2) / 2 % 2 = 1 := by
          have : X i = 0 ∨ X i = 1 := by omega
          rcases this with q | q <;> rw [q] <;> decide
        rw [u2, has1 _ hx4.1 0 (by omega), hq, if_pos (show nI 1 = 1 from rfl), obind]
        dsimp only
        rw [if_neg (show ¬ (1 : Int32) = 0 by decide), hsh, nI_or (by omega) (by omega), hor, nI_1]
      · have hff : ¬ f i = true := fun z => u1 ((hfi2 i hi).mp z)
        have hq : X i / 2 % 2 = 0 := by omega
        rw [hbits, if_neg hff, u2, has1 _ (by omega) 0 (by omega), hq, if_neg (show ¬ nI 0 = 1 by decide), obind]
        dsimp only
        rw [if_pos rfl, show (0 : Int32) = nI 0 from rfl, nI_or (by omega) (by omega), Nat.or_zero, nI_1]; rfl) (fun fu c hc => by
      rw [f_X10_hangs_L198, if_pos (show (24 : Int32) < nI 25 from (nLt (a := 24) (by omega) (by omega)).mpr (by omega))]) 25 N 0 0 (by omega) (by omega) rfl
  exact e
end
