section
theorem st_read (N : Nat) (hN : 2048 < N) {σ : Wd} (R : SRel σ) : SStep (f_X9_read N) (f_X10_read N) σ := by
  obtain ⟨T, P, K, d, ar, sh, hW, hC, hX, hM⟩ := id R
  obtain ⟨⟨w1, w1'⟩, w2, w3, w4, w5⟩ := id hW
  obtain ⟨l1, l2, l3⟩ := lett_sp T
  obtain ⟨τ1, e1, F1, C1, G1⟩ := parse_ok N (by omega) hC.1
  have hnc := nameCode_ok N (by omega) C1 (m := lett T) l2 l1 (fun i hi => by have := l3 i hi; omega)
  have hple := @parsT_le T
  have F1' : Fr [1] σ (sF τ1 1 1 0) := F1.F (by decide)
  have hT0 : CTp (sF τ1 1 1 0) [] := ⟨sF_eq, by simp, fun x hx => absurd hx List.not_mem_nil, fun i hi => absurd hi (Nat.not_lt_zero i)⟩
  have hW0 : WSt [] P K d ar sh := ⟨⟨by simp, fun x hx => absurd hx List.not_mem_nil⟩, w2, w3, w4, w5⟩
  have eX : ∀ y, y = (match (parsT T).1 with | some a => nI a | none => -1) → f_X9_read N σ = if y < 0 then ((f_X3_tell N (nI (ncode (T.take (lett T)))) ((sF τ1 1 1 0).2 1 2) (sF τ1 1 1 0)).bind fun p5 => some (p5.1, p5.2)) else (some ((-100) - y, sF τ1 1 1 0)) := fun y hy => by
    unfold f_X9_read
    rw [e1, obind, hy]
    dsimp only
    rw [letters_ok N (by omega) C1, obind]
    dsimp only
    rw [hnc, obind]
    rfl
  cases hp : (parsT T).1 with
  | some a =>
    have ha := hple hp
    refine SStep.mk hM hW0 (r := -100 - nI a) (σ1 := sF τ1 1 1 0) ?_ (F1'.x (by decide)) (hC.tape F1' hT0) (hX.fr F1' (by decide) (by decide) (by decide) (by decide)) (fun τ M => ?_)
    · rw [eX (nI a) (by rw [hp]), if_neg (show ¬ nI a < 0 from neg_lt a (by omega))]
    · obtain ⟨σ2, e2, M2, F2⟩ := (m_read N hN M.1 w1 w1').1 a hp
      exact ⟨σ2, e2, F2.y (by decide), M.tape F2 (by decide) (by decide) M2 w5⟩
  | none =>
    obtain ⟨g1, g2, g3, g4⟩ := G1 hp
    have A := take_WN T g4 (Nat.le_refl _)
    have C2 : CC (sF τ1 1 1 0) [] P K d ar sh := hC.tape F1' hT0
    have eX2 := eX (-1) (by rw [hp])
    rw [if_pos (show (-1 : Int32) < 0 by decide), sF_2, g1] at eX2
    rcases tell_ok N (by omega) C2.2.1 w2 A (bs := (parsT T).2) with ⟨hroom, τ2, e2, P2, F2⟩ | ⟨hfull, e2⟩
    · have hW2 : WSt [] (tellP P (T.take (lett T)) (parsT T).2) K d ar sh := ⟨hW0.1, w2.tell A g2 g3 hroom, w3, w4, w5⟩
      refine SStep.mk hM hW2 (r := nI (pix P (T.take (lett T)))) (σ1 := τ2) ?_ ((F1'.x (by decide)).tr (F2.x (by decide))) (C2.plans F2 P2) ((hX.fr F1' (by decide) (by decide) (by decide) (by decide)).fr F2 (by decide) (by decide) (by decide) (by decide)) (fun τ M => ?_)
      · rw [eX2, e2]; rfl
      · obtain ⟨σ1, m1, m2, m3, m4, m5, m6⟩ := (m_read N hN M.1 w1 w1').2 hp
        have M1 : MI σ1 [] P K d ar sh := M.tape m2 (by decide) (by decide) m1 w5
        obtain ⟨σ2, e3, M3, F3⟩ := (becomes_ok N hN M1.2.1 w2 A m3 m4 (Or.inl rfl) g2 m5).1 hroom
        exact ⟨σ2, by rw [m6, e3]; rfl, (m2.y (by decide)).tr (F3.y (by decide)), M1.plans F3 M3 w5⟩
    · refine SStep.mk hM hW0 (r := -3) (σ1 := sF τ1 1 1 0) ?_ (F1'.x (by decide)) C2 (hX.fr F1' (by decide) (by decide) (by decide) (by decide)) (fun τ M => ?_)
      · rw [eX2, e2]; rfl
      · obtain ⟨σ1, m1, m2, m3, m4, m5, m6⟩ := (m_read N hN M.1 w1 w1').2 hp
        have M1 : MI σ1 [] P K d ar sh := M.tape m2 (by decide) (by decide) m1 w5
        have e3 := (becomes_ok N hN M1.2.1 w2 A m3 m4 (Or.inl rfl) g2 m5).2 hfull
        exact ⟨σ1, by rw [m6, e3]; rfl, m2.y (by decide), M1⟩
theorem tk_WN {T : Txt} {nm : List Nat} (h : tkName T = some nm) : WN nm := by
  obtain ⟨l1, l2, l3⟩ := lett_sp T
  unfold tkName at h
  by_cases hc : lett T = T.length ∧ 0 < T.length
  · rw [if_pos hc] at h
    cases h
    have := take_WN T (j := lett T) (by omega) (Nat.le_refl _)
    rw [hc.1, List.take_length] at this
    exact this
  · rw [if_neg hc] at h; cases h
theorem st_find (N : Nat) (hN : 2048 < N) {σ : Wd} (R : SRel σ) : SStep (f_X9_find N) (f_X10_find N) σ := by
  obtain ⟨T, P, K, d, ar, sh, hW, hC, hX, hM⟩ := id R
  obtain ⟨⟨w1, w1'⟩, w2, w3, w4, w5⟩ := id hW
  obtain ⟨τ1, e1, C1, F1⟩ := takeName_ok N (by omega) hC.1
  have hW0 : WSt [] P K d ar sh := ⟨⟨by simp, fun x hx => absurd hx List.not_mem_nil⟩, w2, w3, w4, w5⟩
  have C2 := hC.tape F1 C1
  have X2 := hX.fr F1 (by decide) (by decide) (by decide) (by decide)
  cases ht : tkName T with
  | none =>
    rw [ht] at e1
    refine SStep.mk hM hW0 (r := -2) (σ1 := τ1) ?_ (F1.x (by decide)) C2 X2 (fun τ M => ?_)
    · unfold f_X9_find
      rw [e1, obind]
      dsimp only
      rw [if_pos rfl]
    · obtain ⟨σ2, e2, M2, F2, -⟩ := m_named N hN M.1 w1 w1'
      rw [ht] at e2
      refine ⟨σ2, ?_, F2.y (by decide), M.tape F2 (by decide) (by decide) M2 w5⟩
      unfold f_X10_find
      rw [e2, obind]
      dsimp only
      rw [if_pos rfl]
  | some nm =>
    have A := tk_WN ht
    rw [ht] at e1
    refine SStep.mk hM hW0 (r := if pix P nm < P.length then nI (pix P nm) else -2) (σ1 := τ1) ?_ (F1.x (by decide)) C2 X2 (fun τ M => ?_)
    · unfold f_X9_find
      rw [e1, obind]
      dsimp only
      rw [if_neg (show ¬ nI (ncode nm) = 0 from neN (b := 0) A.bd (by omega) A.pos), numberOf_ok N (by omega) C2.2.1 w2 A, obind]
    · obtain ⟨σ2, e2, M2, F2, G⟩ := m_named N hN M.1 w1 w1'
      obtain ⟨g1, g2, -⟩ := G nm ht
      rw [ht] at e2
      have M3 := M.tape F2 (by decide) (by decide) M2 w5
      refine ⟨σ2, ?_, F2.y (by decide), M3⟩
      unfold f_X10_find
      rw [e2, obind]
      dsimp only
      rw [if_neg (show ¬ (1 : Int32) = 0 by decide), planNamed_ok N hN M3.2.1 w2 A g1 g2, obind]
theorem st_forget (N : Nat) (hN : 2048 < N) {σ : Wd} (R : SRel σ) (x : Int32) : SStep (f_X9_forget N x) (f_X10_forget N x) σ := by
  obtain ⟨T, P, K, d, ar, sh, hW, hC, hX, hM⟩ := id R
  obtain ⟨w1, w2, w3, w4, w5⟩ := id hW
  have hP := w2.1
  rcases plc P hP x with ⟨n, p, rfl, hn, hp⟩ | hx
  · obtain ⟨τ1, e1, P1, F1⟩ := remove_ok N (by omega) hC.2.1 hP hn
    refine SStep.mk hM (⟨w1, w2.erase n, w3, w4, w5⟩ : WSt T (P.eraseIdx n) K d ar sh) (r := nI (P.length - 1)) (σ1 := τ1) ?_ (F1.x (by decide)) (hC.plans F1 P1) (hX.fr F1 (by decide) (by decide) (by decide) (by decide)) (fun τ M => ?_)
    · unfold f_X9_forget
      rw [has_y N hC.2.1 hP hn, obind]
      dsimp only
      rw [if_neg (show ¬ (1 : Int32) = 0 by decide), e1, obind, P1.1, List.length_eraseIdx, if_pos hn]
    · obtain ⟨σ2, e2, M2, F2⟩ := mforget_ok N hN M.2.1 w2 hn
      refine ⟨σ2, ?_, F2.y (by decide), M.plans F2 M2 w5⟩
      unfold f_X10_forget
      rw [isPlan_y N M.2.1 hP hn, obind]
      dsimp only
      rw [if_neg (show ¬ (1 : Int32) = 0 by decide), M.2.1.1, show nI P.length - 1 = nI (P.length - 1) from pk_sub (b := 1) (by omega)]
      exact e2
  · refine SStep.ref R (r := -1) ?_ ?_
    · unfold f_X9_forget
      rw [has_n N hC.2.1 hx, obind]; rfl
    · unfold f_X10_forget
      rw [isPlan_n N hM.2.1 hP hx, obind]; rfl
theorem figure_ok (N : Nat) {bs : Blk} (V : VB bs) {n : Nat} (hn : n < 2147483648) (σ : Wd) : f_X0_figureOf N (lN (bcode bs)) (nI n) σ = some (match bs[n]? with | some b => nI (10 * b.1 + b.2) | none => -2, σ) := by
  have hV := V.1
  unfold f_X0_figureOf
  by_cases h8 : 8 ≤ n
  · rw [if_pos (show (8 : Int32) ≤ nI n from (nLe (a := 8) (by omega) hn).mpr h8), List.getElem?_eq_none (by omega)]
  · rw [if_neg (show ¬ (8 : Int32) ≤ nI n from fun z => h8 ((nLe (a := 8) (by omega) hn).mp z)), codeAt_ok N V (by omega), obind]
    dsimp only
    by_cases hl : n < bs.length
    · have hb := bget_pos V.2.1 hl
      have hb2 := bget_lt bs V.2.1 n
      rw [if_neg (show ¬ nI (bget bs n) = 0 from neN (b := 0) (by omega) (by omega) hb), kindAt_ok N V (by omega), obind]
      dsimp only
      rw [widthAt_ok N V (by omega), obind, bget_k V.2.1, bget_w V.2.1, List.getElem?_eq_getElem hl]
      dsimp only
      rw [show (10 : Int32) * nI bs[n].1 = nI (10 * bs[n].1) from nMulL 10 _, nI_add]
    · rw [bget_end (by omega), if_pos (show nI 0 = 0 from rfl), List.getElem?_eq_none (by omega)]
theorem mwidth_ok (N : Nat) (hN : 2048 < N) {σ : Wd} {P : Pl} (M : MPl σ P) (W : WP P) {n : Nat} {p : List Nat × Blk} (hp : P[n]? = some p) : f_X10_width N (nI n) σ = some (nI (wid p.2), σ) := by
  have hn := (List.getElem?_eq_some_iff.mp hp).1
  have hP := W.1
  obtain ⟨-, -, m3, m4⟩ := M.2 n p hp
  have Vp := (W.at hp).2.1
  have Vp1 := Vp.1
  unfold f_X10_width
  rw [xld_n (by omega) (by omega), obind, m3, show (8 : Int32) * nI n = nI (8 * n) from nMulL 8 n, widthOf_ok N hN Vp m4 (by omega) (by decide), obind]
theorem st_plan (N : Nat) (hN : 2048 < N) {σ : Wd} (R : SRel σ) (x y : Int32) : SStep (f_X9_plan N x y) (f_X10_plan N x y) σ := by
  obtain ⟨T, P, K, d, ar, sh, hW, hC, hX, hM⟩ := id R
  obtain ⟨w1, w2, w3, w4, w5⟩ := id hW
  have hP := w2.1
  rcases plc P hP x with ⟨n, p, rfl, hn, hp⟩ | hx
  · have Vp := (w2.at hp).2.1
    have Vp1 := Vp.1
    obtain ⟨-, -, m3, m4⟩ := hM.2.1.2 n p hp
    have c2 := (hC.2.1.2 n p hp).2
    have eX : f_X9_plan N (nI n) y σ = if (-2) ≤ y then (if y = (-1) then some (nI (wid p.2), σ) else (if y = (-2) then some (nI p.2.length, σ) else ((f_X0_figureOf N (lN (bcode p.2)) y σ).bind fun p5 => some (p5.1, p5.2)))) else some (-1, σ) := by
      unfold f_X9_plan
      rw [has_y N hC.2.1 hP hn, obind]
      dsimp only
      rw [if_neg (show ¬ (1 : Int32) = 0 by decide), xldL_n (by omega) (by omega), obind, c2, width_ok N (by omega) Vp, amount_ok N (by omega) Vp]
      rfl
    have eM : f_X10_plan N (nI n) y σ = if (-2) ≤ y then (if y < 0 then (if y = (-1) then some (nI (wid p.2), σ) else some (nI p.2.length, σ)) else (if nI p.2.length ≤ y then (some ((-2), σ)) else ((xld σ 44 96 (nI (8 * n) + y)).bind fun v5 => some (v5, σ)))) else some (-1, σ) := by
      unfold f_X10_plan
      rw [isPlan_y N hM.2.1 hP hn, obind]
      dsimp only
      rw [if_neg (show ¬ (1 : Int32) = 0 by decide), mwidth_ok N hN hM.2.1 w2 hp, xld_n (by omega) (by omega), m3, show (8 : Int32) * nI n = nI (8 * n) from nMulL 8 n]
      rfl
    by_cases h2 : -2 ≤ y
    · rw [if_pos h2] at eX eM
      rcases i32m2 h2 with rfl | rfl | ⟨m, hm, rfl⟩
      · exact SStep.ref R (r := nI p.2.length) (by rw [eX, if_neg (by decide), if_pos rfl]) (by rw [eM, if_pos (by decide), if_neg (by decide)])
      · exact SStep.ref R (r := nI (wid p.2)) (by rw [eX, if_pos rfl]) (by rw [eM, if_pos (by decide), if_pos rfl])
      · obtain ⟨q1, q2, q3, q4, q5⟩ := nM hm
        rw [if_neg q1, if_neg q2, figure_ok N Vp hm, obind] at eX
        rw [if_neg q5] at eM
        by_cases hl : m < p.2.length
        · have hb : p.2[m]? = some p.2[m] := List.getElem?_eq_getElem hl
          rw [hb] at eX
          rw [if_neg (fun z => by have := (nLe (by omega) (by omega)).mp z; omega), nI_add, xld_n (by omega) (by omega), obind, m4 m _ hb] at eM
          exact SStep.ref R eX eM
        · rw [List.getElem?_eq_none (by omega)] at eX
          rw [if_pos ((nLe (by omega) (by omega)).mpr (by omega))] at eM
          exact SStep.ref R eX eM
    · rw [if_neg h2] at eX eM
      exact SStep.ref R eX eM
  · refine SStep.ref R (r := -1) ?_ ?_
    · unfold f_X9_plan
      rw [has_n N hC.2.1 hx, obind]; rfl
    · unfold f_X10_plan
      rw [isPlan_n N hM.2.1 hP hx, obind]; rfl
theorem st_name (N : Nat) (hN : 2048 < N) {σ : Wd} (R : SRel σ) (x y : Int32) : SStep (f_X9_name N x y) (f_X10_name N x y) σ := by
  obtain ⟨T, P, K, d, ar, sh, hW, hC, hX, hM⟩ := id R
  obtain ⟨w1, w2, w3, w4, w5⟩ := id hW
  have hP := w2.1
  rcases plc P hP x with ⟨n, p, rfl, hn, hp⟩ | hx
  · have A := (w2.at hp).1
    have hA := A.2.1
    obtain ⟨m1, m2, -, -⟩ := hM.2.1.2 n p hp
    have c1 := (hC.2.1.2 n p hp).1
    have eX : f_X9_name N (nI n) y σ = if (-1) ≤ y then (if y = (-1) then some (nI p.1.length, σ) else (if nI p.1.length ≤ y then some (-2, σ) else some ((nI (ncode p.1) >>> ((8 * y) &&& 31)) &&& 255, σ))) else some (-1, σ) := by
      unfold f_X9_name
      rw [has_y N hC.2.1 hP hn, obind]
      dsimp only
      rw [if_neg (show ¬ (1 : Int32) = 0 by decide), nameLength_ok N (by omega) hC.2.1 w2 hp, obind]
      dsimp only
      rw [xld_n (by omega) (by omega), c1]
      rfl
    have eM : f_X10_name N (nI n) y σ = if (-1) ≤ y then (if y = (-1) then some (nI p.1.length, σ) else (if nI p.1.length ≤ y then (some ((-2), σ)) else ((xld σ 42 48 (nI (4 * n) + y)).bind fun v5 => some (v5, σ)))) else some (-1, σ) := by
      unfold f_X10_name
      rw [isPlan_y N hM.2.1 hP hn, obind]
      dsimp only
      rw [if_neg (show ¬ (1 : Int32) = 0 by decide), xld_n (by omega) (by omega), m1, show (4 : Int32) * nI n = nI (4 * n) from nMulL 4 n]
      rfl
    by_cases h2 : -1 ≤ y
    · rw [if_pos h2] at eX eM
      rcases i32m1 h2 with rfl | ⟨m, hm, rfl⟩
      · exact SStep.ref R (r := nI p.1.length) (by rw [eX, if_pos rfl]) (by rw [eM, if_pos rfl])
      · obtain ⟨q1, q2, q3, q4, q5⟩ := nM hm
        rw [if_neg q1] at eX eM
        by_cases hl : m < p.1.length
        · have hb := m2 m _ (getD_some hl)
          rw [if_neg (fun z => by have := (nLe (by omega) (by omega)).mp z; omega), letter_ok A (by omega)] at eX
          rw [if_neg (fun z => by have := (nLe (by omega) (by omega)).mp z; omega), nI_add, xld_n (by omega) (by omega), obind, hb.1] at eM
          exact SStep.ref R eX eM
        · rw [if_pos ((nLe (by omega) (by omega)).mpr (by omega))] at eX eM
          exact SStep.ref R eX eM
    · rw [if_neg h2] at eX eM
      exact SStep.ref R eX eM
  · refine SStep.ref R (r := -1) ?_ ?_
    · unfold f_X9_name
      rw [has_n N hC.2.1 hx, obind]; rfl
    · unfold f_X10_name
      rw [isPlan_n N hM.2.1 hP hx, obind]; rfl
end
