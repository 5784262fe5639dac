section
/-! Gates of two plans; sweeps; the reference. -/
theorem or12 : ∀ x, x < 2 → ((x ||| 2) &&& 3 = 3 ↔ x = 1) := by decide +kernel
theorem m_both (N : Nat) (hN : 2048 < N) {σ : Wd} {n : Nat} {kd l r den oz d ar : Nat → Nat} {as bs : Blk} (H : LDp σ n kd l r den oz as d ar) (A : VB as) (V : VB bs) {K L base : Nat} (hrow : MRow σ K base bs) (hK : K ∉ layC) (hK4 : K ≠ 41) (hL : base + bs.length ≤ L) (hL2 : L < 1000) :
    ∃ τ, ((f_X10_builds N K L (nI base) (nI bs.length) σ).bind fun σ5 => (f_X10_marks N 2 σ5).bind fun σ6 => (f_X10_manyUsed N (-1) 3 σ6).bind fun p7 => some (p7.1, p7.2)) = some (nI (gboth (OUT as) (OUT bs)), τ) ∧ FrM layC layF σ τ := by
  classical
  obtain ⟨HN, HO, HD, HU, HR, HS, hnb⟩ := id H
  have hW := V.2.2
  have hWa := A.2.2
  have h27 := HN.1.1
  have hK1 : K ∉ [53, 54, 55, 60, 61, 62] := fun z => hK (by revert z; simp only [layC, List.mem_cons, List.not_mem_nil, or_false]; omega)
  obtain ⟨τ1, n', den', ob, e1, X1, O1, D1, F1⟩ := mbuilds_ok N hN V hrow hK1 hK4 hL hL2 ⟨kd, l, r, HN⟩ (by omega)
  obtain ⟨kd', l', r', H1⟩ := X1.1
  have hnn := X1.2.1
  rw [e1, obind]
  obtain ⟨X, hX⟩ : ∃ X : Nat → Nat, X = fun j => if j < n ∧ ∃ o, o < n ∧ (∃ i, i < wid as + 1 ∧ o = oz i) ∧ sub (den j) (den o) then 1 else 0 := ⟨_, rfl⟩
  have hX2 : ∀ j, X j < 2 := fun j => by rw [hX]; dsimp only; split <;> omega
  have hXB : XB 2 X := ⟨Or.inr rfl, fun j => ⟨by have := hX2 j; omega, by
    have : X j = 0 ∨ X j = 1 := by have := hX2 j; omega
    rcases this with q | q <;> rw [q] <;> decide⟩⟩
  have hU0 : UP τ1 2 X (fun _ => False) := fun j hj => Or.inr ⟨fun z => z, by
    rw [hX, F1.i (by decide) (by decide)]
    dsimp only
    rcases HU j hj with ⟨a, b⟩ | ⟨a, b⟩
    · rw [if_pos a]; exact b.trans (congrArg nI (show (0 ||| 1 : Nat) = 1 by decide))
    · rw [if_neg a]; exact b⟩
  obtain ⟨τ2, e2, F2, U2⟩ := mmarks_ok N hN H1 O1 hXB hU0
  rw [show (2 : Int32) = nI 2 from rfl, e2, obind]
  have H2 := H1.fr F2 (by decide) (by decide) (by decide) (by decide)
  have hX3 : ∀ j, j < 2048 → τ2.1 56 j = nI (if j < n' ∧ ∃ o, o < n' ∧ (∃ i, i < wid bs + 1 ∧ o = ob i) ∧ sub (den' j) (den' o) then X j ||| 2 else X j) ∧ (if j < n' ∧ ∃ o, o < n' ∧ (∃ i, i < wid bs + 1 ∧ o = ob i) ∧ sub (den' j) (den' o) then X j ||| 2 else X j) < 4 := fun j hj => by
    have h4 := or4m (X j) (by have := hX2 j; omega) 2 (by omega)
    rcases U2 j hj with ⟨a, b⟩ | ⟨a, b⟩
    · rw [if_pos a]; exact ⟨b, h4.1⟩
    · rw [if_neg a]; exact ⟨b, by have := hX2 j; omega⟩
  obtain ⟨f, hf⟩ : ∃ f : Nat → Bool, ∀ j, f j = true ↔ (j < n ∧ ∃ o, o < n ∧ (∃ i, i < wid as + 1 ∧ o = oz i) ∧ sub (den j) (den o)) ∧ (j < n' ∧ ∃ o, o < n' ∧ (∃ i, i < wid bs + 1 ∧ o = ob i) ∧ sub (den' j) (den' o)) := ⟨fun j => decide ((j < n ∧ ∃ o, o < n ∧ (∃ i, i < wid as + 1 ∧ o = oz i) ∧ sub (den j) (den o)) ∧ (j < n' ∧ ∃ o, o < n' ∧ (∃ i, i < wid bs + 1 ∧ o = ob i) ∧ sub (den' j) (den' o))), fun j => decide_eq_true_iff⟩
  have e3 := mused_loop N hN H2 (X := fun j => if j < n' ∧ ∃ o, o < n' ∧ (∃ i, i < wid bs + 1 ∧ o = ob i) ∧ sub (den' j) (den' o) then X j ||| 2 else X j) (mk := 3) hX3 (by omega) (k := none) (fun q hq => by cases hq) (f := f) (fun j => by
    rw [hf]
    have hx1 : X j = 1 ↔ (j < n ∧ ∃ o, o < n ∧ (∃ i, i < wid as + 1 ∧ o = oz i) ∧ sub (den j) (den o)) := by
      rw [hX]; dsimp only
      by_cases c : j < n ∧ ∃ o, o < n ∧ (∃ i, i < wid as + 1 ∧ o = oz i) ∧ sub (den j) (den o)
      · rw [if_pos c]; exact ⟨fun _ => c, fun _ => rfl⟩
      · rw [if_neg c]; exact ⟨fun z => by omega, fun z => absurd z c⟩
    by_cases c : j < n' ∧ ∃ o, o < n' ∧ (∃ i, i < wid bs + 1 ∧ o = ob i) ∧ sub (den' j) (den' o)
    · rw [if_pos c, or12 _ (hX2 j), hx1]
      exact ⟨fun z => ⟨z.1, fun q hq => by cases hq⟩, fun z => ⟨z.1, c⟩⟩
    · rw [if_neg c]
      refine ⟨fun z => absurd z.2 c, fun z => absurd z.1 ?_⟩
      have : X j = 0 ∨ X j = 1 := by have := hX2 j; omega
      rcases this with q | q <;> rw [q] <;> decide)
  have e3' : f_X10_manyUsed N (-1) 3 τ2 = _ := e3
  rw [e3', obind]
  have hoz : ∀ i, i < wid as + 1 → oz i < n := HO.2.2.2
  have hob : ∀ i, i < wid bs + 1 → ob i < n' := O1.2.2.2
  have hg : gboth (OUT as) (OUT bs) = cntB f n' := by
    unfold gboth cntB
    refine cnt_net H1.1 lfM_ok ?_ ?_
    · rintro s ⟨s1, ⟨t, ⟨i, i1, rfl⟩, s2⟩, -⟩
      rw [← HD i (by omega)] at s2
      obtain ⟨j, j1, rfl⟩ := sub_den HN.1 lfM_ok (oz i) (hoz i (by omega)) s s2
      have hjn := hoz i (by omega)
      exact ⟨j, (HN.1.den_ge lfM_ok (by omega)).mp s1, by omega, (X1.2.2.2 j (by omega)).symm⟩
    · intro j j1 j2
      rw [hf]
      constructor
      · rintro ⟨⟨q0, o, o1, ⟨i, i1, rfl⟩, o3⟩, -, o', o1', ⟨i', i1', rfl⟩, o3'⟩
        refine ⟨(H1.1.den_ge lfM_ok j2).mpr j1, ⟨_, ⟨i, by omega, rfl⟩, ?_⟩, ⟨_, ⟨i', by omega, rfl⟩, ?_⟩⟩
        · rw [← HD i i1, X1.2.2.2 j q0]; exact o3
        · rw [← D1 i' i1']; exact o3'
      · rintro ⟨-, ⟨t, ⟨i, i1, rfl⟩, o3⟩, ⟨t', ⟨i', i1', rfl⟩, o3'⟩⟩
        rw [← HD i (by omega)] at o3
        obtain ⟨j0, z1, z2⟩ := sub_den HN.1 lfM_ok (oz i) (hoz i (by omega)) _ o3
        have hjn := hoz i (by omega)
        have hj0 : j = j0 := H1.1.2.2.2 j j0 j2 (by omega) (by rw [z2, X1.2.2.2 j0 (by omega)])
        have hjn2 : j < n := by omega
        refine ⟨⟨hjn2, oz i, hjn, ⟨i, by omega, rfl⟩, ?_⟩, j2, ob i', hob i' (by omega), ⟨i', by omega, rfl⟩, ?_⟩
        · rw [← X1.2.2.2 j hjn2]; exact o3
        · rw [D1 i' (by omega)]; exact o3'
  exact ⟨τ2, by rw [hg], (F1.mo (by decide) (by decide)).tr (F2.mo (by decide) (by decide))⟩
def swpF : List Nat := [29, 30, 31, 32]
theorem ld_leaf {σ : Wd} {n : Nat} {kd l r den oz d ar : Nat → Nat} {bs : Blk} (H : LDp σ n kd l r den oz bs d ar) : RW σ 57 27 (fun k => tmL ar k) := fun k hk => by
  have h27 := H.1.1.1
  have := H.2.2.2.2.1 k (by omega)
  dsimp only at this
  rw [tm_leaf H.1.1 lfM_ok hk] at this
  exact this
theorem m_sweep (N : Nat) (hN : 2048 < N) {σ : Wd} {n : Nat} {kd l r den oz d ar : Nat → Nat} {bs : Blk} (HN : MNet σ n kd l r den) (HO : MOG σ n (wid bs) oz) (HD : ∀ i, i < wid bs + 1 → den (oz i) = outT (nets bs) i) (hD : MDA σ d ar) (hb : dab d ar) (RL : RW σ 57 27 (fun k => tmL ar k)) (hw : wid bs ≤ 4) {t : Nat} (ht : t < 1000000) (h32 : σ.1 41 32 = -1) :
    ∃ τ, f_X10_goesThrough_L24 N (f_X10_goesThrough_J131 N) N (nI t) (nI (2 ^ wid bs)) 0 0 σ = some (nI (cle (swAt bs d ar) t (2 * 2 ^ (2 * wid bs))), τ) ∧ τ.1 41 32 = nI (aWorst bs d ar 0) ∧ τ.1 41 29 = nI (aWorst bs d ar 1) ∧ τ.1 41 30 = nI (aWorst bs d ar 2) ∧ τ.1 41 31 = nI (aWorst bs d ar 3) ∧ FrM [57, 58] swpF σ τ := by
  obtain ⟨p1, p2, p3⟩ := pw4 hw
  have hpos : 0 < 2 ^ wid bs := Nat.pow_pos (by decide)
  have hm : 2 * 2 ^ wid bs * 2 ^ wid bs = 2 * 2 ^ (2 * wid bs) := by rw [p3, Nat.mul_assoc]
  have hmm : 2 ^ wid bs * 2 ^ wid bs = 2 ^ (2 * wid bs) := p3.symm
  generalize hM : 2 ^ wid bs = M at *
  have hMM : M * M ≤ 256 := by rw [hmm]; omega
  have hMp : 0 < M * M := Nat.mul_pos hpos hpos
  have hT : 0 < 2 * 2 ^ (2 * wid bs) := by rw [← hmm]; omega
  have key := lp_up (S := Wd × Int32) (g := fun fu i s => f_X10_goesThrough_L24 N (f_X10_goesThrough_J131 N) fu (nI t) (nI M) s.2 (nI i) s.1) (E := fun s => f_X10_goesThrough_J131 N s.2 s.1) (P := fun i s => FrM [57, 58] swpF σ s.1 ∧ RW s.1 57 27 (fun k => tmL ar k) ∧ s.2 = nI (cle (swAt bs d ar) t i) ∧ ((i = 0 ∧ s.1.1 41 32 = -1) ∨ (0 < i ∧ swAt bs d ar (fmx (swAt bs d ar) i) < 1000000 ∧ s.1.1 41 32 = nI (swAt bs d ar (fmx (swAt bs d ar) i)) ∧ s.1.1 41 29 = nI (fmx (swAt bs d ar) i % M) ∧ s.1.1 41 30 = nI (fmx (swAt bs d ar) i / M % M) ∧ s.1.1 41 31 = nI (fmx (swAt bs d ar) i / 2 ^ (2 * wid bs))))) (m := 2 * 2 ^ (2 * wid bs)) ?_ ?_ (2 * 2 ^ (2 * wid bs)) N 0 (σ, 0) (by omega) (by omega) ⟨FrM.rf _ _ σ, RL, rfl, Or.inl ⟨rfl, h32⟩⟩
  · obtain ⟨⟨τ, c⟩, ⟨F, R, hc, hs⟩, e⟩ := key
    dsimp only at F R hc hs
    subst hc
    rcases hs with ⟨h0, -⟩ | ⟨-, -, q1, q2, q3, q4⟩
    · omega
    · refine ⟨τ, e, ?_, ?_, ?_, ?_, F⟩
      · rw [q1]; rfl
      · rw [q2, ← hM]; rfl
      · rw [q3, ← hM]; rfl
      · rw [q4]; rfl
  · rintro fu i ⟨τ, c⟩ hi ⟨F, R, hc, hs⟩
    dsimp only at F R hc hs ⊢
    subst hc
    have H2 := HN.fr F (by decide) (by decide) (by decide) (by decide)
    have O2 := HO.fr F (by decide) (by decide)
    have D2 := hD.fr F (by decide) (by decide)
    have hcl := cle_le (swAt bs d ar) t i
    have ha : i % M < M := Nat.mod_lt _ hpos
    have hb2 : i / M % M < M := Nat.mod_lt _ hpos
    have hc1 : i / (M * M) ≤ 1 := by
      have : i / (M * M) < 2 := (Nat.div_lt_iff_lt_mul hMp).mpr (by omega)
      omega
    obtain ⟨τ1, e1, F1, R1⟩ := meval_ok N hN H2 hb (d := d) (ar := ar) (a := i % M) (b := i / M % M) (c := i / (M * M)) (by omega) (by omega) hc1
    have H3 := H2.fr F1 (by decide) (by decide) (by decide) (by decide)
    obtain ⟨τ2, e2, F2, R2, RL2⟩ := msettle_ok N hN H3 (D2.fr F1 (by decide) (by decide)) hb (fun t _ => vaL_le (a := i % M) (b := i / M % M) hc1 t) R1 (R.frm F1 (by decide) (by decide))
    have H4 := H3.fr F2 (by decide) (by decide) (by decide) (by decide)
    have O4 := (O2.fr F1 (by decide) (by decide)).fr F2 (by decide) (by decide)
    obtain ⟨⟨e3, hlt⟩, -⟩ := m_setl N hN H4 O4 HD R2
    have hsw : aSet bs d ar (i % M) (i / M % M) (i / (M * M)) = swAt bs d ar i := by unfold swAt; rw [hM, hmm]
    rw [hsw] at e3 hlt
    have F3 : FrM [57, 58] swpF σ τ2 := (F.tr (F1.mo (by decide) (by decide))).tr (F2.mo (by decide) (by decide))
    have hcell : ∀ b, τ2.1 41 b = τ.1 41 b := fun b => by rw [F2.m (by simp), F1.m (by simp)]
    rw [f_X10_goesThrough_L24, show (2 : Int32) = nI 2 from rfl, pk_mul, pk_mul, hm, if_neg (fun z => by have := (nLe (by omega) (by omega)).mp z; omega), if_neg (show ¬ nI M = 0 from neN (b := 0) (by omega) (by omega) (by omega)), if_neg (show ¬ nI M = 0 from neN (b := 0) (by omega) (by omega) (by omega)), if_neg (show ¬ nI M = 0 from neN (b := 0) (by omega) (by omega) (by omega)), pk_mul, if_neg (show ¬ nI (M * M) = 0 from neN (b := 0) (by omega) (by omega) (by omega)), pk_rem (by omega) hpos (by omega), pk_div (by omega) hpos (by omega), pk_rem (Nat.lt_of_le_of_lt (Nat.div_le_self i M) (by omega)) hpos (by omega), pk_div (by omega) hMp (by omega), e1, obind, e2, obind, e3, obind]
    dsimp only
    have fin : ∀ y, y ≤ 1 → cle (swAt bs d ar) t i + y = cle (swAt bs d ar) t (i + 1) → ∃ s' : Wd × Int32, (FrM [57, 58] swpF σ s'.1 ∧ RW s'.1 57 27 (fun k => tmL ar k) ∧ s'.2 = nI (cle (swAt bs d ar) t (i + 1)) ∧ ((i + 1 = 0 ∧ s'.1.1 41 32 = -1) ∨ (0 < i + 1 ∧ swAt bs d ar (fmx (swAt bs d ar) (i + 1)) < 1000000 ∧ s'.1.1 41 32 = nI (swAt bs d ar (fmx (swAt bs d ar) (i + 1))) ∧ s'.1.1 41 29 = nI (fmx (swAt bs d ar) (i + 1) % M) ∧ s'.1.1 41 30 = nI (fmx (swAt bs d ar) (i + 1) / M % M) ∧ s'.1.1 41 31 = nI (fmx (swAt bs d ar) (i + 1) / 2 ^ (2 * wid bs))))) ∧ f_X10_goesThrough_J89 N (f_X10_goesThrough_L24 N (f_X10_goesThrough_J131 N) fu) (f_X10_goesThrough_J131 N) (nI t) (nI M) (nI i) (nI (i % M)) (nI (i / M % M)) (nI (i / (M * M))) (nI (swAt bs d ar i)) (nI (cle (swAt bs d ar) t i)) (nI y) τ2 = f_X10_goesThrough_L24 N (f_X10_goesThrough_J131 N) fu (nI t) (nI M) s'.2 (nI (i + 1)) s'.1 := by
      intro y hy hcy
      unfold f_X10_goesThrough_J89
      dsimp only
      rw [hcell 32, nI_add, hcy, nI_1]
      have upd : fmx (swAt bs d ar) (i + 1) = i → ∃ s' : Wd × Int32, (FrM [57, 58] swpF σ s'.1 ∧ RW s'.1 57 27 (fun k => tmL ar k) ∧ s'.2 = nI (cle (swAt bs d ar) t (i + 1)) ∧ ((i + 1 = 0 ∧ s'.1.1 41 32 = -1) ∨ (0 < i + 1 ∧ swAt bs d ar (fmx (swAt bs d ar) (i + 1)) < 1000000 ∧ s'.1.1 41 32 = nI (swAt bs d ar (fmx (swAt bs d ar) (i + 1))) ∧ s'.1.1 41 29 = nI (fmx (swAt bs d ar) (i + 1) % M) ∧ s'.1.1 41 30 = nI (fmx (swAt bs d ar) (i + 1) / M % M) ∧ s'.1.1 41 31 = nI (fmx (swAt bs d ar) (i + 1) / 2 ^ (2 * wid bs))))) ∧ f_X10_goesThrough_L24 N (f_X10_goesThrough_J131 N) fu (nI t) (nI M) (nI (cle (swAt bs d ar) t (i + 1))) (nI (i + 1)) (sF (sF (sF (sF τ2 41 32 (nI (swAt bs d ar i))) 41 29 (nI (i % M))) 41 30 (nI (i / M % M))) 41 31 (nI (i / (M * M)))) = f_X10_goesThrough_L24 N (f_X10_goesThrough_J131 N) fu (nI t) (nI M) s'.2 (nI (i + 1)) s'.1 := fun hfm => by
        refine ⟨(sF (sF (sF (sF τ2 41 32 (nI (swAt bs d ar i))) 41 29 (nI (i % M))) 41 30 (nI (i / M % M))) 41 31 (nI (i / (M * M))), nI (cle (swAt bs d ar) t (i + 1))), ⟨(((F3.D (by decide)).D (by decide)).D (by decide)).D (by decide), fun k hk => ?_, rfl, Or.inr ⟨by omega, by rw [hfm]; exact hlt, ?_, ?_, ?_, ?_⟩⟩, rfl⟩
        · dsimp only
          rw [sF_ne (by decide), sF_ne (by decide), sF_ne (by decide), sF_ne (by decide)]; exact RL2 k hk
        · dsimp only
          rw [sF_nb (by decide), sF_nb (by decide), sF_nb (by decide), sF_eq, hfm]
        · dsimp only
          rw [sF_nb (by decide), sF_nb (by decide), sF_eq, hfm]
        · dsimp only
          rw [sF_nb (by decide), sF_eq, hfm]
        · dsimp only
          rw [sF_eq, hfm, hmm]
      rcases hs with ⟨h0, q⟩ | ⟨h0, q0, q1, q2, q3, q4⟩
      · subst h0
        rw [q, if_neg (show ¬ nI (swAt bs d ar 0) ≤ -1 from fun z => by
          rw [fa_le, nI_toInt (by omega)] at z
          have : (-1 : Int32).toInt = -1 := by decide
          omega)]
        refine upd ?_
        unfold fmx
        rw [show fmx (swAt bs d ar) 0 = 0 from rfl, if_neg (Nat.lt_irrefl _)]
      · rw [q1]
        by_cases c1 : swAt bs d ar i ≤ swAt bs d ar (fmx (swAt bs d ar) i)
        · rw [if_pos ((nLe (by omega) (by omega)).mpr c1)]
          have hfm : fmx (swAt bs d ar) (i + 1) = fmx (swAt bs d ar) i := by
            show (if _ < _ then i else _) = _
            rw [if_neg (by omega)]
          refine ⟨(τ2, nI (cle (swAt bs d ar) t (i + 1))), ⟨F3, RL2, rfl, Or.inr ⟨by omega, by rw [hfm]; exact q0, ?_, ?_, ?_, ?_⟩⟩, rfl⟩
          · dsimp only; rw [hcell, hfm]; exact q1
          · dsimp only; rw [hcell, hfm]; exact q2
          · dsimp only; rw [hcell, hfm]; exact q3
          · dsimp only; rw [hcell, hfm]; exact q4
        · rw [if_neg (fun z => c1 ((nLe (by omega) (by omega)).mp z))]
          refine upd ?_
          show (if _ < _ then i else _) = _
          rw [if_pos (by omega)]
    by_cases ct : t < swAt bs d ar i
    · rw [if_pos ((nLt (by omega) (by omega)).mpr ct)]
      exact fin 0 (by omega) (by rw [cle, if_neg (by omega)])
    · rw [if_neg (fun z => ct ((nLt (by omega) (by omega)).mp z))]
      exact fin 1 (by omega) (by rw [cle, if_pos (by omega)])
  · rintro fu ⟨τ, c⟩ ⟨F, R, hc, hs⟩
    dsimp only
    rw [f_X10_goesThrough_L24, show (2 : Int32) = nI 2 from rfl, pk_mul, pk_mul, hm, if_pos ((nLe (by omega) (by omega)).mpr (Nat.le_refl _))]
end
