/-! A block laid, blocks built. -/
def CLS (σ : Wd) (n : Nat) (den : Nat → Nat) (st : NSt) : Prop := CN σ n den ∧ σ.1 4 6 = nI st.1 ∧ GV σ n den 4 7 st.2.1 ∧ ∀ i, i < st.1 → GV σ n den 22 i (st.2.2 i)
def FrL (σ τ : Wd) : Prop := τ.2 = σ.2 ∧ ∀ a b, a ≠ 4 → a ≠ 18 → a ≠ 19 → a ≠ 20 → a ≠ 22 → a ≠ 23 → a ≠ 24 → a ≠ 26 → a ≠ 27 → a ≠ 28 → a ≠ 29 → τ.1 a b = σ.1 a b
theorem FrL.rf (σ : Wd) : FrL σ σ := ⟨rfl, fun _ _ _ _ _ _ _ _ _ _ _ _ _ => rfl⟩
theorem FrL.tr {σ τ υ : Wd} (h : FrL σ τ) (h2 : FrL τ υ) : FrL σ υ := ⟨h2.1.trans h.1, fun a b q1 q2 q3 q4 q5 q6 q7 q8 q9 q10 q11 => (h2.2 a b q1 q2 q3 q4 q5 q6 q7 q8 q9 q10 q11).trans (h.2 a b q1 q2 q3 q4 q5 q6 q7 q8 q9 q10 q11)⟩
theorem FrN.L {σ τ : Wd} (h : FrN σ τ) : FrL σ τ := ⟨h.1, fun a b q1 q2 q3 q4 q5 q6 q7 q8 q9 q10 q11 => h.2 a b q2 q3 q4 q6 q7 (fun z => q1 z.1)⟩
theorem pg_loop (N : Nat) (hN : 512 ≤ N) {hi lo : Nat} (hhi : hi < 12) (KO : Int32 → Int32 → Int32 → Wd → Option Wd) (a b : Int32) : ∀ (cnt fuel i : Nat) (σ : Wd) (n : Nat) (den : Nat → Nat),
    i + cnt = hi + 1 → lo ≤ i → cnt < fuel → CN σ n den → (∀ j, lo ≤ j → j < i → GV σ n den 26 j (tP j) ∧ GV σ n den 27 j (tG j)) → n + 2 * cnt ≤ 512 →
    ∃ (τ : Wd) (n' : Nat) (den' : Nat → Nat), f_X2_lay_L37 N KO fuel a b (nI hi) (nI i) σ = KO a b (nI hi) τ ∧ EX n den τ n' den' (2 * cnt) ∧ (∀ j, lo ≤ j → j ≤ hi → GV τ n' den' 26 j (tP j) ∧ GV τ n' den' 27 j (tG j)) ∧ τ.2 = σ.2 ∧ (∀ a b, a ≠ 18 → a ≠ 19 → a ≠ 20 → a ≠ 23 → a ≠ 24 → a ≠ 26 → a ≠ 27 → ¬ (a = 4 ∧ b = 5) → τ.1 a b = σ.1 a b)
  | 0, fuel + 1, i, σ, n, den, h1, h2, h3, H, hp, hr => by
    unfold f_X2_lay_L37
    have hlt : hi < i := by omega
    rw [if_pos ((nLt (by omega) (by omega)).mpr hlt)]
    exact ⟨σ, n, den, rfl, EX.rf _ H, fun j j1 j2 => hp j j1 (by omega), rfl, fun _ _ _ _ _ _ _ _ _ _ => rfl⟩
  | cnt + 1, fuel + 1, i, σ, n, den, h1, h2, h3, H, hp, hr => by
    unfold f_X2_lay_L37
    have hle : ¬ hi < i := by omega
    have h27 := H.lt
    rw [if_neg (fun z => hle ((nLt (by omega) (by omega)).mp z)), show (2 : Int32) + nI i = nI (2 + i) from nI_add 2 i, show (14 : Int32) + nI i = nI (14 + i) from nI_add 14 i]
    have l1 : den (2 + i) = i := by rw [H.leaf (by omega)]; unfold lfC; rw [if_neg (by omega), if_neg (by omega)]; omega
    have l2 : den (14 + i) = 12 + i := by rw [H.leaf (by omega)]; unfold lfC; rw [if_neg (by omega), if_neg (by omega)]; omega
    obtain ⟨z1, τ1, n1, d1, e1, x1, y1, t1, f1⟩ := (xor_ok N hN H (show 2 + i < n by omega) (show 14 + i < n by omega) (by omega)).ex
    rw [e1, obind]
    dsimp only
    have hn1 := x1.2.2.1
    have hn10 := x1.2.1
    rw [xst_n (by omega) (by omega), obind]
    have c3 : CN (sF τ1 26 i (nI z1)) n1 d1 := x1.1.put (by omega)
    obtain ⟨z2, τ2, n2, d2, e2, x2, y2, t2, f2⟩ := (and_ok N hN c3 (show 2 + i < n1 by omega) (show 14 + i < n1 by omega) (by omega)).ex
    rw [e2, obind]
    dsimp only
    have hn2 := x2.2.2.1
    have hn20 := x2.2.1
    rw [xst_n (by omega) (by omega), obind, nI_1]
    have c4 : CN (sF τ2 27 i (nI z2)) n2 d2 := x2.1.put (by omega)
    have hX : EX n den (sF τ2 27 i (nI z2)) n2 d2 2 := ⟨c4, by omega, by omega, fun k hk => by rw [x2.2.2.2 k (by omega), x1.2.2.2 k hk]⟩
    obtain ⟨τ, n', den', E, X, G, F1, F2⟩ := pg_loop N hN (lo := lo) hhi KO a b cnt fuel (i + 1) _ n2 d2 (by omega) (by omega) (by omega) c4 (fun j j1 j2 => by
      by_cases hji : j = i
      · subst hji
        refine ⟨⟨z1, by omega, by rw [sF_ne (by omega), f2.at (by omega), sF_eq], by rw [x2.2.2.2 z1 y1, t1, l1, l2]; rfl⟩, ⟨z2, y2, by rw [sF_eq], by rw [t2, x1.2.2.2 _ (by omega), x1.2.2.2 _ (by omega), l1, l2]; rfl⟩⟩
      · obtain ⟨q1, q2⟩ := hp j j1 (by omega)
        exact ⟨q1.up hX.2.1 hX.2.2.2 (by rw [sF_ne (by omega), f2.at (by omega), sF_nb (by omega), f1.at (by omega)]), q2.up hX.2.1 hX.2.2.2 (by rw [sF_nb (by omega), f2.at (by omega), sF_ne (by omega), f1.at (by omega)])⟩) (by omega)
    refine ⟨τ, n', den', E, hX.tr X (by omega), G, by rw [F1, sF_2, f2.1, sF_2, f1.1], fun x y q1 q2 q3 q4 q5 q6 q7 q8 => ?_⟩
    rw [F2 x y q1 q2 q3 q4 q5 q6 q7 q8, sF_ne q7, f2.2 x y q1 q2 q3 q4 q5 q8, sF_ne q6, f1.2 x y q1 q2 q3 q4 q5 q8]
/-- the fields behind a block -/
theorem lay_end {σ : Wd} {n : Nat} {den : Nat → Nat} {st : NSt} {kind w : Nat} (hS : CLS σ n den st) {o : Option (Int32 × Wd)} {σ1 : Wd} {n1 : Nat} {d1 : Nat → Nat} (X1 : EX n den σ1 n1 d1 (2 * w)) (hm : (∀ a b, a ≠ 18 → a ≠ 19 → a ≠ 20 → a ≠ 23 → a ≠ 24 → a ≠ 26 → a ≠ 27 → ¬ (a = 4 ∧ b = 5) → σ1.1 a b = σ.1 a b)) (hm2 : σ1.2 = σ.2) (hL : LayR σ1 n1 d1 (14 * w) kind st.1 w st.2.1 o) (hw : 1 ≤ w) :
    ∃ (τ : Wd) (n' : Nat) (den' : Nat → Nat), (o.bind fun p => some (sF (sF p.2 4 7 p.1) 4 6 (nI (st.1 + w - 1) + 1))) = some τ ∧ CLS τ n' den' (nstep st (kind, w)) ∧ EX n den τ n' den' (16 * w) ∧ FrL σ τ ∧ (∀ i, i < st.1 → τ.1 22 i = σ.1 22 i) := by
  obtain ⟨hC, h6, h7, h22⟩ := hS
  obtain ⟨z, τ, n', den', e, X, Y, T, G, O, F1, F2⟩ := hL
  rw [e, obind, nI_1]
  have hX : EX n den τ n' den' (16 * w) := X1.tr X (by omega)
  have c2 : CN (sF (sF τ 4 7 (nI z)) 4 6 (nI (st.1 + w - 1 + 1))) n' den' := (X.1.put (by omega)).put (by omega)
  refine ⟨_, n', den', rfl, ⟨c2, ?_, ⟨z, Y, ?_, ?_⟩, fun i hi => ?_⟩, ⟨c2, hX.2⟩, ⟨?_, fun a b q1 q2 q3 q4 q5 q6 q7 q8 q9 q10 q11 => ?_⟩, fun i hi => ?_⟩
  · rw [sF_eq, show st.1 + w - 1 + 1 = st.1 + w by omega]; rfl
  · rw [sF_nb (by decide), sF_eq]
  · exact T
  · simp only [nstep] at hi ⊢
    by_cases hlo : st.1 ≤ i
    · rw [if_pos ⟨hlo, hi⟩]
      exact (G i hlo hi).up (Nat.le_refl _) (fun _ _ => rfl) (by rw [sF_ne (by decide), sF_ne (by decide)])
    · rw [if_neg (fun z => hlo z.1)]
      refine (h22 i (by omega)).up hX.2.1 hX.2.2.2 ?_
      rw [sF_ne (by decide), sF_ne (by decide), O i (Or.inl (by omega)), hm 22 i (by decide) (by decide) (by decide) (by decide) (by decide) (by decide) (by decide) (by omega)]
  · rw [sF_2, sF_2, F1, hm2]
  · rw [sF_ne q1, sF_ne q1, F2 a b q2 q3 q4 q6 q7 q5 q10 q11 (fun z => q1 z.1), hm a b q2 q3 q4 q6 q7 q8 q9 (fun z => q1 z.1)]
  · rw [sF_ne (by decide), sF_ne (by decide), O i (Or.inl hi), hm 22 i (by decide) (by decide) (by decide) (by decide) (by decide) (by decide) (by decide) (by omega)]
theorem lay_ok (N : Nat) (hN : 512 ≤ N) {σ : Wd} {n : Nat} {den : Nat → Nat} {st : NSt} (hS : CLS σ n den st) {kind w : Nat} (hk : kind < 4) (hw : 1 ≤ w) (hw6 : w ≤ 6) (hlw : st.1 + w ≤ 12) (hr : n + 16 * w ≤ 512) :
    ∃ (τ : Wd) (n' : Nat) (den' : Nat → Nat), f_X2_lay N (nI kind) (nI w) σ = some τ ∧ CLS τ n' den' (nstep st (kind, w)) ∧ EX n den τ n' den' (16 * w) ∧ FrL σ τ ∧ (∀ i, i < st.1 → τ.1 22 i = σ.1 22 i) := by
  obtain ⟨hC, h6, ⟨c, c1, c2, c3⟩, h22⟩ := id hS
  unfold f_X2_lay
  rw [h6, if_neg (show ¬ nI w < 1 from fun z => absurd ((nLt (b := 1) (by omega) (by omega)).mp z) (by omega)), if_neg (show ¬ (6 : Int32) < nI w from fun z => absurd ((nLt (a := 6) (by omega) (by omega)).mp z) (by omega)), nI_add, show nI (st.1 + w) - 1 = nI (st.1 + w - 1) from nSub (b := 1) (by omega), if_pos (show nI (st.1 + w - 1) < 12 from (nLt (b := 12) (by omega) (by omega)).mpr (by omega))]
  obtain ⟨σ1, n1, d1, E, X, G, F1, F2⟩ := pg_loop N hN (lo := st.1) (hi := st.1 + w - 1) (by omega) (f_X2_lay_J90 N) (nI kind) (nI st.1) w N st.1 σ n den (by omega) (Nat.le_refl _) (by omega) hC (fun j j1 j2 => by omega) (by omega)
  rw [E]
  have hn1 := X.2.2.1
  have hn10 := X.2.1
  have hcm : σ1.1 4 7 = nI c := by rw [F2 4 7 (by decide) (by decide) (by decide) (by decide) (by decide) (by decide) (by decide) (by decide)]; exact c2
  have hdc : d1 c = st.2.1 := by rw [X.2.2.2 c c1, c3]
  unfold f_X2_lay_J90
  have fin := fun (o : Option (Int32 × Wd)) (hL : LayR σ1 n1 d1 (14 * w) kind st.1 w (d1 c) o) => lay_end hS X F2 F1 (o := o) (by rw [← hdc]; exact hL) hw
  by_cases k1 : kind = 1
  · subst k1
    rw [if_pos (show nI 1 = 1 from rfl)]
    exact fin _ ((laySkip_ok N hN hw hlw X.1 G (show c < n1 by omega) hcm (by omega)).mono (by omega))
  · rw [if_neg (show ¬ nI kind = 1 from neN (b := 1) (by omega) (by omega) k1)]
    by_cases k2 : kind = 2
    · subst k2
      rw [if_pos (show nI 2 = 2 from rfl)]
      exact fin _ ((laySel_ok N hN hw hlw X.1 G (show c < n1 by omega) hcm (by omega)).mono (by omega))
    · rw [if_neg (show ¬ nI kind = 2 from neN (b := 2) (by omega) (by omega) k2)]
      by_cases k3 : kind = 3
      · subst k3
        rw [if_pos (show nI 3 = 3 from rfl)]
        exact fin _ (layAh_ok N hN hw hw6 hlw X.1 G (show c < n1 by omega) hcm (by omega))
      · rw [if_neg (show ¬ nI kind = 3 from neN (b := 3) (by omega) (by omega) k3), hcm]
        have k0 : kind = 0 := by omega
        subst k0
        exact fin _ ((layRip N hN hw hlw X.1 G (show c < n1 by omega) (by omega)).mono (by omega))
theorem nstep_w (st : NSt) (b : Nat × Nat) : (nstep st b).1 = st.1 + b.2 := rfl
theorem nets_w : ∀ (bs : Blk) (st : NSt), (bs.foldl nstep st).1 = st.1 + wid bs
  | [], st => rfl
  | b :: bs, st => by
    rw [List.foldl_cons, nets_w bs, nstep_w]
    unfold wid
    rw [List.map_cons, List.sum_cons]
    omega
theorem build_loop (N : Nat) (hN : 512 ≤ N) {bs : Blk} (V : VB bs) (KO : Wd → Option Wd) : ∀ (cnt fuel i : Nat) (σ : Wd) (n : Nat) (den : Nat → Nat),
    i + cnt = bs.length → cnt < fuel → CLS σ n den ((bs.take i).foldl nstep nst0) → n + 16 * wid (bs.drop i) ≤ 512 →
    ∃ (τ : Wd) (n' : Nat) (den' : Nat → Nat), f_X2_build_L19 N KO fuel (lN (bcode bs)) (nI bs.length) (nI i) σ = KO τ ∧ CLS τ n' den' (nets bs) ∧ EX n den τ n' den' (16 * wid (bs.drop i)) ∧ FrL σ τ
  | 0, fuel + 1, i, σ, n, den, h1, h3, hS, hr => by
    unfold f_X2_build_L19
    have := V.1
    have hi : bs.length ≤ i := by omega
    rw [if_pos ((nLe (by omega) (by omega)).mpr hi)]
    rw [List.take_of_length_le hi] at hS
    exact ⟨σ, n, den, rfl, hS, EX.rf _ hS.1, FrL.rf σ⟩
  | cnt + 1, fuel + 1, i, σ, n, den, h1, h3, hS, hr => by
    unfold f_X2_build_L19
    have hV := V.1
    have hi : ¬ bs.length ≤ i := by omega
    have hlt : i < bs.length := by omega
    rw [if_neg (fun z => hi ((nLe (by omega) (by omega)).mp z)), kindAt_ok N V (by omega), obind]
    dsimp only
    rw [widthAt_ok N V (by omega), obind, bget_k V.2.1, bget_w V.2.1, List.getElem?_eq_getElem hlt]
    dsimp only
    obtain ⟨v1, v2, v3⟩ := V.2.1 _ (List.getElem_mem hlt)
    have hd : wid (bs.drop i) = (bs[i]).2 + wid (bs.drop (i + 1)) := by
      rw [List.drop_eq_getElem_cons hlt]
      unfold wid
      rw [List.map_cons, List.sum_cons]
    have hw : ((bs.take i).foldl nstep nst0).1 = wid (bs.take i) := by
      rw [nets_w]; show 0 + _ = _; omega
    have hle := wid_le bs (i + 1)
    rw [wid_take, List.getElem?_eq_getElem hlt] at hle
    dsimp only at hle
    have hV3 := V.2.2
    obtain ⟨τ1, n1, d1, e1, s1, x1, f1, -⟩ := lay_ok N hN hS v1 v2 v3 (by rw [hw]; omega) (by omega)
    rw [e1, obind, nI_1]
    have hs2 : CLS τ1 n1 d1 ((bs.take (i + 1)).foldl nstep nst0) := by
      rw [List.take_add_one, List.getElem?_eq_getElem hlt, List.foldl_append]
      exact s1
    have hn1 := x1.2.2.1
    obtain ⟨τ, n', den', E, S, X, F⟩ := build_loop N hN V KO cnt fuel (i + 1) τ1 n1 d1 (by omega) (by omega) hs2 (by omega)
    exact ⟨τ, n', den', E, S, x1.tr X (by omega), f1.tr F⟩
/-- blocks built upon the gates that are there -/
theorem build_ok (N : Nat) (hN : 512 ≤ N) {bs : Blk} (V : VB bs) {σ : Wd} {n : Nat} {den : Nat → Nat} (H : CN σ n den) (hr : n + 16 * wid bs ≤ 512) :
    ∃ (τ : Wd) (n' : Nat) (den' : Nat → Nat), f_X2_build N (lN (bcode bs)) σ = some τ ∧ CLS τ n' den' (nets bs) ∧ EX n den τ n' den' (16 * wid bs) ∧ FrL σ τ := by
  unfold f_X2_build
  have h27 := H.lt
  have hV := V.1
  have h24 : den 26 = 24 := H.leaf (by omega)
  have c2 : CN (sF (sF σ 4 6 0) 4 7 26) n den := (H.put (by omega)).put (by omega)
  obtain ⟨τ, n', den', E, S, X, F⟩ := build_loop N hN V (f_X2_build_J47 N) bs.length N 0 (sF (sF σ 4 6 0) 4 7 26) n den (by omega) (by omega) ⟨c2, by rw [sF_nb (by decide), sF_eq]; rfl, ⟨26, by omega, by rw [sF_eq]; rfl, h24⟩, fun i hi => absurd hi (Nat.not_lt_zero i)⟩ hr
  dsimp only
  rw [amount_ok N hN V, obind, show (0 : Int32) = nI 0 from rfl]
  refine ⟨τ, n', den', E, S, X, ⟨by rw [F.1, sF_2, sF_2], fun a b q1 q2 q3 q4 q5 q6 q7 q8 q9 q10 q11 => by rw [F.2 a b q1 q2 q3 q4 q5 q6 q7 q8 q9 q10 q11, sF_ne q1, sF_ne q1]⟩⟩
theorem clear_loop (N : Nat) (KO : Wd → Option Wd) : ∀ (cnt fuel i : Nat) (σ : Wd), i + cnt = 27 → cnt < fuel → (∀ j, j < i → σ.1 23 j = 0) →
    ∃ τ, f_X2_clear_L2 N KO fuel (nI i) σ = KO τ ∧ (∀ j, j < 27 → τ.1 23 j = 0) ∧ τ.2 = σ.2 ∧ ∀ a b, a ≠ 23 → τ.1 a b = σ.1 a b
  | 0, fuel + 1, i, σ, h1, h2, h3 => by
    unfold f_X2_clear_L2
    rw [if_pos (show (27 : Int32) ≤ nI i from (nLe (a := 27) (by omega) (by omega)).mpr (by omega))]
    exact ⟨σ, rfl, fun j hj => h3 j (by omega), rfl, fun _ _ _ => rfl⟩
  | cnt + 1, fuel + 1, i, σ, h1, h2, h3 => by
    unfold f_X2_clear_L2
    rw [if_neg (show ¬ (27 : Int32) ≤ nI i from fun z => absurd ((nLe (a := 27) (by omega) (by omega)).mp z) (by omega)), xst_n (by omega) (by omega), obind, nI_1]
    obtain ⟨τ, e, q1, q2, q3⟩ := clear_loop N KO cnt fuel (i + 1) (sF σ 23 i 0) (by omega) (by omega) (fun j hj => by
      by_cases hji : j = i
      · subst hji; rw [sF_eq]
      · rw [sF_nb hji]; exact h3 j (by omega))
    exact ⟨τ, e, q1, q2, fun a b ha => by rw [q3 a b ha, sF_ne ha]⟩
/-- a net of the inputs alone -/
theorem clear_ok (N : Nat) (hN : 512 ≤ N) (σ : Wd) : ∃ τ, f_X2_clear N σ = some τ ∧ CLS τ 27 lfC nst0 ∧ FrL σ τ := by
  unfold f_X2_clear
  obtain ⟨τ, e, q1, q2, q3⟩ := clear_loop N (f_X2_clear_J21 N) 27 N 0 σ (by omega) (by omega) (fun j hj => absurd hj (Nat.not_lt_zero j))
  rw [show (0 : Int32) = nI 0 from rfl, e]
  unfold f_X2_clear_J21
  have h23 : ∀ h, h < 27 → (sF (sF (sF τ 4 5 27) 4 6 0) 4 7 26).1 23 h = 0 := fun h hh => by rw [sF_ne (by decide), sF_ne (by decide), sF_ne (by decide), q1 h hh]
  refine ⟨sF (sF (sF τ 4 5 27) 4 6 0) 4 7 26, rfl, ⟨⟨fun _ => 0, fun _ => 0, fun _ => 0, fun _ => 0, fun _ => 0, ⟨Nat.le_refl _, fun _ _ => rfl, fun k k1 k2 => by omega, fun j k hj hk he => lfC_ok.2 j k hj hk he⟩, by omega, ?_, fun k k1 k2 => by omega, fun h hh => h23 h hh, fun h hh => Or.inl ⟨(show (0 : Nat) < 27 by omega), fun k k1 k2 => by omega⟩, fun g g1 g2 => by omega⟩, ?_, ⟨26, by omega, ?_, rfl⟩, fun i hi => absurd hi (Nat.not_lt_zero i)⟩, ⟨?_, fun a b h1 h2 h3 h4 h5 h6 h7 h8 h9 h10 h11 => ?_⟩⟩
  · rw [sF_nb (by decide), sF_nb (by decide), sF_eq]; rfl
  · rw [sF_nb (by decide), sF_eq]; rfl
  · rw [sF_eq]; rfl
  · rw [sF_2, sF_2, sF_2, q2]
  · rw [sF_ne h1, sF_ne h1, sF_ne h1, q3 a b h6]
