section
/-! What the reference lays, evaluates, settles. -/
theorem MRow.fr {σ τ : Wd} {ks fs : List Nat} {K base : Nat} {bs : Blk} (H : MRow σ K base bs) (F : FrM ks fs σ τ) (h : K ∉ ks) (h4 : K ≠ 41) : MRow τ K base bs := fun i b hb => by rw [F.i h h4]; exact H i b hb
def layC : List Nat := [53, 54, 55, 56, 57, 59, 60, 61, 62]
def layF : List Nat := [27, 28]
/-- what laying leaves behind -/
def LDp (τ : Wd) (n : Nat) (kd l r den oz : Nat → Nat) (bs : Blk) (d ar : Nat → Nat) : Prop :=
  MNet τ n kd l r den ∧ MOG τ n (wid bs) oz ∧ (∀ i, i < wid bs + 1 → den (oz i) = outT (nets bs) i) ∧ UP τ 1 (fun _ => 0) (fun j => j < n ∧ ∃ o, o < n ∧ (∃ i, i < wid bs + 1 ∧ o = oz i) ∧ sub (den j) (den o)) ∧ RW τ 57 n (fun k => TM d ar (den k)) ∧ RW τ 59 n (fun k => (DP d ar (den k)).2) ∧ n ≤ 27 + 57 * wid bs
theorem X0B : XB 1 (fun _ => 0) := ⟨Or.inl rfl, fun _ => ⟨Nat.le_of_ble_eq_true rfl, by show 0 &&& 1 = 0; decide⟩⟩
theorem mlays_ok (N : Nat) (hN : 2048 < N) {bs : Blk} (V : VB bs) {K L base : Nat} {σ : Wd} (hrow : MRow σ K base bs) (hK : K ∉ layC) (hK4 : K ≠ 41) (hL : base + bs.length ≤ L) (hL2 : L < 1000) {d ar : Nat → Nat} (hD : MDA σ d ar) (hb : dab d ar) :
    ∃ (τ : Wd) (n : Nat) (kd l r den oz : Nat → Nat), f_X10_lays N K L (nI base) (nI bs.length) σ = some τ ∧ LDp τ n kd l r den oz bs d ar ∧ FrM layC layF σ τ := by
  have hW := V.2.2
  have hK1 : K ∉ [53, 54, 55, 60, 61, 62] := fun z => hK (by revert z; simp only [layC, List.mem_cons, List.not_mem_nil, or_false]; omega)
  have hK2 : K ∉ [53] := fun z => hK (by revert z; simp only [layC, List.mem_cons, List.not_mem_nil, or_false]; omega)
  have hK3 : K ∉ [56] := fun z => hK (by revert z; simp only [layC, List.mem_cons, List.not_mem_nil, or_false]; omega)
  unfold f_X10_lays
  obtain ⟨τ1, e1, M1, F1⟩ := mclears_ok N hN σ
  rw [e1, obind]
  obtain ⟨τ2, ⟨F2, U2⟩, e2⟩ := lp_up (g := fun fu i s => f_X10_lays_L7 N K L (f_X10_lays_J29 N K L) fu (nI base) (nI bs.length) (nI i) s) (E := fun s => f_X10_lays_J29 N K L (nI base) (nI bs.length) s) (P := fun i τ => FrM [56] [] τ1 τ ∧ ∀ j, j < i → τ.1 56 j = nI 0) (m := 2048) (fun fu i τ hi ⟨F, U⟩ => by
      have hle : ¬ 2048 ≤ i := by omega
      refine ⟨sF τ 56 i (nI 0), ⟨F.F (by decide) (by decide), fun j hj => ?_⟩, ?_⟩
      · by_cases hji : j = i
        · rw [hji, sF_eq]
        · rw [sF_nb hji]; exact U j (by omega)
      · rw [f_X10_lays_L7, if_neg (show ¬ (2048 : Int32) ≤ nI i from fun z => hle ((nLe (a := 2048) (by omega) (by omega)).mp z)), show (0 : Int32) = nI 0 from rfl, xst_n (by omega) (by omega), obind, nI_1]) (fun fu τ hP => by
      rw [f_X10_lays_L7, if_pos (show (2048 : Int32) ≤ nI 2048 from (nLe (a := 2048) (by omega) (by omega)).mpr (Nat.le_refl _))]) 2048 N 0 τ1 (by omega) (by omega) ⟨FrM.rf _ _ τ1, fun j hj => absurd hj (Nat.not_lt_zero j)⟩
  have e2' : f_X10_lays_L7 N K L (f_X10_lays_J29 N K L) N (nI base) (nI bs.length) 0 τ1 = f_X10_lays_J29 N K L (nI base) (nI bs.length) τ2 := e2
  rw [e2']
  unfold f_X10_lays_J29
  have M2 : MN τ2 27 (fun k => k) := M1.cong (fun a ha b => F2.i (by simp; omega) (by omega) b) (F2.m (by decide))
  have hrow2 : MRow τ2 K base bs := (hrow.fr F1 hK2 hK4).fr F2 hK3 hK4
  obtain ⟨τ3, n, den, oz, e3, X3, O3, D3, F3⟩ := mbuilds_ok N hN V hrow2 hK1 hK4 hL hL2 M2 (by omega)
  rw [e3, obind]
  obtain ⟨kd, l, r, H3⟩ := X3.1
  have hn := X3.2.2.1
  have U3 : UP τ3 1 (fun _ => 0) (fun _ => False) := fun j hj => Or.inr ⟨fun z => z, by rw [F3.i (by decide) (by decide)]; exact U2 j hj⟩
  obtain ⟨τ4, e4, F4, U4⟩ := mmarks_ok N hN H3 O3 X0B U3
  rw [show (1 : Int32) = nI 1 from rfl, e4, obind]
  have H4 := H3.fr F4 (by decide) (by decide) (by decide) (by decide)
  have O4 := O3.fr F4 (by decide) (by decide)
  have D0 := (((hD.fr F1 (by decide) (by decide)).fr F2 (by decide) (by decide)).fr F3 (by decide) (by decide)).fr F4 (by decide) (by decide)
  obtain ⟨τ5, e5, F5, R5, S5⟩ := mtimes_ok N hN H4 D0 hb
  rw [e5, obind]
  refine ⟨τ5, n, kd, l, r, den, oz, rfl, ⟨H4.fr F5 (by decide) (by decide) (by decide) (by decide), O4.fr F5 (by decide) (by decide), D3, fun j hj => ?_, R5, S5, hn⟩, ?_⟩
  · rw [F5.i (by decide) (by decide)]; exact U4 j hj
  · exact ((((F1.mo (by decide) (by decide)).tr (F2.mo (by decide) (by decide))).tr (F3.mo (by decide) (by decide))).tr (F4.mo (by decide) (by decide))).tr (F5.mo (by decide) (by decide))
theorem meval_ok (N : Nat) (hN : 2048 < N) {σ : Wd} {n : Nat} {kd l r den d ar : Nat → Nat} (H : MNet σ n kd l r den) (hb : dab d ar) {a b c : Nat} (ha : a < 2147483648) (hb2 : b < 2147483648) (hc : c ≤ 1) :
    ∃ τ, f_X10_evaluates N (nI a) (nI b) (nI c) σ = some τ ∧ FrM [58] [] σ τ ∧ RW τ 58 n (fun k => (STl d ar (vaL a b c) (den k)).1) := by
  obtain ⟨hT, hn, h45, -, hg⟩ := id H
  have h27 := hT.1
  have hst := st_bd hT lfM_ok hb (fun t _ => vaL_le (a := a) (b := b) hc t) (d := d) (ar := ar)
  unfold f_X10_evaluates
  obtain ⟨τ1, ⟨F1, Q1, Q2⟩, e1⟩ := lp_up (g := fun fu i s => f_X10_evaluates_L3 N (f_X10_evaluates_J45 N) fu (nI a) (nI b) (nI c) (nI i) s) (E := fun s => f_X10_evaluates_J45 N (nI c) s) (P := fun i τ => FrM [58] [] σ τ ∧ (∀ j, j < i → τ.1 58 j = nI (a / 2 ^ j % 2)) ∧ ∀ j, j < i → τ.1 58 (12 + j) = nI (b / 2 ^ j % 2)) (m := 12) (fun fu i τ hi ⟨F, q1, q2⟩ => by
      have hle : ¬ 12 ≤ i := by omega
      refine ⟨sF (sF τ 58 i (nI (a / 2 ^ i % 2))) 58 (12 + i) (nI (b / 2 ^ i % 2)), ⟨(F.F (by decide) (by decide)).F (by decide) (by decide), fun j hj => ?_, fun j hj => ?_⟩, ?_⟩
      · rw [sF_nb (by omega)]
        by_cases hji : j = i
        · rw [hji, sF_eq]
        · rw [sF_nb hji]; exact q1 j (by omega)
      · by_cases hji : j = i
        · rw [hji, sF_eq]
        · rw [sF_nb (by omega), sF_nb (by omega)]; exact q2 j (by omega)
      · rw [f_X10_evaluates_L3, if_neg (show ¬ (12 : Int32) ≤ nI i from fun z => hle ((nLe (a := 12) (by omega) (by omega)).mp z)), bit_1 ha (by omega), bit_1 hb2 (by omega), xst_n (by omega) (by omega), obind, show (12 : Int32) + nI i = nI (12 + i) from nAddL 12 i, xst_n (by omega) (by omega), obind, nI_1]) (fun fu τ hP => by
      rw [f_X10_evaluates_L3, if_pos (show (12 : Int32) ≤ nI 12 from (nLe (a := 12) (by omega) (by omega)).mpr (Nat.le_refl _))]) 12 N 0 σ (by omega) (by omega) ⟨FrM.rf _ _ σ, fun j hj => absurd hj (Nat.not_lt_zero j), fun j hj => absurd hj (Nat.not_lt_zero j)⟩
  have e1' : f_X10_evaluates_L3 N (f_X10_evaluates_J45 N) N (nI a) (nI b) (nI c) 0 σ = f_X10_evaluates_J45 N (nI c) τ1 := e1
  rw [e1']
  unfold f_X10_evaluates_J45
  rw [xst_l (i := 24) (by omega) (by omega), obind, xst_l (i := 25) (by omega) (by omega), obind, xst_l (i := 26) (by omega) (by omega), obind]
  have Fi : FrM [58] [] σ (sF (sF (sF τ1 58 24 (nI c)) 58 25 0) 58 26 1) := ((F1.F (by decide) (by decide)).F (by decide) (by decide)).F (by decide) (by decide)
  have Ri : RW (sF (sF (sF τ1 58 24 (nI c)) 58 25 0) 58 26 1) 58 27 (fun k => (STl d ar (vaL a b c) (den k)).1) := fun k hk => by
    dsimp only
    rw [st_leaf hT lfM_ok hk]
    show _ = nI (vaL a b c k) ∧ vaL a b c k < 1000000
    refine ⟨?_, by have := vaL_le (a := a) (b := b) hc k; omega⟩
    unfold vaL
    by_cases k26 : k = 26
    · subst k26; rw [sF_eq]; rfl
    · rw [sF_nb k26]
      by_cases k25 : k = 25
      · subst k25; rw [sF_eq]; rfl
      · rw [sF_nb k25]
        by_cases k24 : k = 24
        · subst k24; rw [sF_eq]; rfl
        · rw [sF_nb k24]
          by_cases k12 : k < 12
          · rw [if_pos k12]; exact Q1 k k12
          · rw [if_neg k12, if_pos (by omega)]
            have := Q2 (k - 12) (by omega)
            rw [show 12 + (k - 12) = k by omega] at this
            exact this
  obtain ⟨τ, ⟨-, F, R⟩, e⟩ := lp_up (g := fun fu i s => f_X10_evaluates_L73 N (f_X10_evaluates_J183 N) fu (nI i) s) (E := fun s => f_X10_evaluates_J183 N s) (P := fun i τ => 27 ≤ i ∧ FrM [58] [] σ τ ∧ RW τ 58 i (fun k => (STl d ar (vaL a b c) (den k)).1)) (m := n) (fun fu i τ hi ⟨hi27, F, R⟩ => by
      have H2 := H.fr F (by decide) (by decide) (by decide) (by decide)
      obtain ⟨a1, a2, a3, -⟩ := hT.2.2.1 i hi27 hi
      obtain ⟨g1, g2, g3, g4⟩ := H2.2.2.2.2 i hi27 hi
      obtain ⟨w1, w2⟩ := R (l i) a2
      obtain ⟨w3, w4⟩ := R (r i) a3
      obtain ⟨e1, e2, e3, e4⟩ := nI_a2 (hst (l i) (by omega)).1 (hst (r i) (by omega)).1
      have hv : vaF (kd i) (STl d ar (vaL a b c) (den (l i))).1 (STl d ar (vaL a b c) (den (r i))).1 = (STl d ar (vaL a b c) (den i)).1 := by rw [st_gate hT hi27 hi]; rfl
      have hp := R.put (show (STl d ar (vaL a b c) (den i)).1 < 1000000 by have := (hst i hi).1; omega)
      refine ⟨sF τ 58 i (nI (STl d ar (vaL a b c) (den i)).1), ⟨by omega, F.F (by decide) (by decide), hp⟩, ?_⟩
      dsimp only at w1 w3
      rw [f_X10_evaluates_L73, H2.2.2.1, if_neg (fun z => by have := (nLe (by omega) (by omega)).mp z; omega), xld_n (by omega) (by omega), obind, g2, xld_n (by omega) (by omega), obind, w1, xld_n (by omega) (by omega), obind, g3, xld_n (by omega) (by omega), obind, w3, xld_n (by omega) (by omega), obind, g1, e1, e2, e3, e4, ← hv, obind, obind]
      by_cases c0 : kd i = 0
      · rw [if_pos (show nI (kd i) = 0 by rw [c0]; rfl), xst_n (by omega) (by omega), obind, nI_1, c0]
        unfold vaF
        rw [if_pos rfl, ← g4 c0, Nat.min_self]
      · rw [if_neg (show ¬ nI (kd i) = 0 from neN (b := 0) (by omega) (by omega) c0)]
        by_cases c1 : kd i = 1
        · rw [if_pos (show nI (kd i) = 1 by rw [c1]; rfl), xst_n (by omega) (by omega), obind, nI_1, c1]; rfl
        · rw [if_neg (show ¬ nI (kd i) = 1 from neN (b := 1) (by omega) (by omega) c1)]
          by_cases c2 : kd i = 2
          · rw [if_pos (show nI (kd i) = 2 by rw [c2]; rfl), xst_n (by omega) (by omega), obind, nI_1, c2]; rfl
          · rw [if_neg (show ¬ nI (kd i) = 2 from neN (b := 2) (by omega) (by omega) c2), xst_n (by omega) (by omega), obind, nI_1, show kd i = 3 by omega]; rfl) (fun fu τ ⟨_, F, _⟩ => by
      have H2 := H.fr F (by decide) (by decide) (by decide) (by decide)
      rw [f_X10_evaluates_L73, H2.2.2.1, if_pos ((nLe (by omega) (by omega)).mpr (Nat.le_refl _))]) (n - 27) N 27 _ (by omega) (by omega) ⟨by omega, Fi, Ri⟩
  exact ⟨τ, e, F, R⟩
theorem msettle_ok (N : Nat) (hN : 2048 < N) {σ : Wd} {n : Nat} {kd l r den d ar lv : Nat → Nat} (H : MNet σ n kd l r den) (hD : MDA σ d ar) (hb : dab d ar) (hl : ∀ t, t < 27 → lv t ≤ 1) (RV : RW σ 58 n (fun k => (STl d ar lv (den k)).1)) (RL : RW σ 57 27 (fun k => tmL ar k)) :
    ∃ τ, f_X10_settlesAll N σ = some τ ∧ FrM [57] [] σ τ ∧ RW τ 57 n (fun k => (STl d ar lv (den k)).2) ∧ RW τ 57 27 (fun k => tmL ar k) := by
  obtain ⟨hT, hn, h45, -, hg⟩ := id H
  have h27 := hT.1
  have hst := st_bd hT lfM_ok hb hl (d := d) (ar := ar)
  unfold f_X10_settlesAll
  obtain ⟨τ, ⟨-, F, R, RL2⟩, e⟩ := lp_up (g := fun fu i s => f_X10_settlesAll_L3 N (f_X10_settlesAll_J218 N) fu (nI i) s) (E := fun s => f_X10_settlesAll_J218 N s) (P := fun i τ => 27 ≤ i ∧ FrM [57] [] σ τ ∧ RW τ 57 i (fun k => (STl d ar lv (den k)).2) ∧ RW τ 57 27 (fun k => tmL ar k)) (m := n) (fun fu i τ hi ⟨hi27, F, R, RL2⟩ => by
      have H2 := H.fr F (by decide) (by decide) (by decide) (by decide)
      have D2 := hD.fr F (by decide) (by decide)
      have V2 := RV.frm F (by decide) (by decide)
      obtain ⟨a1, a2, a3, -⟩ := hT.2.2.1 i hi27 hi
      obtain ⟨g1, g2, g3, -⟩ := H2.2.2.2.2 i hi27 hi
      obtain ⟨r1, r2⟩ := R (l i) a2
      obtain ⟨r3, r4⟩ := R (r i) a3
      obtain ⟨v1, -⟩ := V2 (l i) (by omega)
      obtain ⟨v3, -⟩ := V2 (r i) (by omega)
      obtain ⟨v5, -⟩ := V2 i hi
      have b1 := (hst (l i) (by omega)).1
      have b2 := (hst (r i) (by omega)).1
      have b3 := hst i hi
      have hdd := hb.1 _ a1
      have hgs := st_gate hT (d := d) (ar := ar) (lv := lv) hi27 hi
      have hv : (STl d ar lv (den i)).1 = vaF (kd i) (STl d ar lv (den (l i))).1 (STl d ar lv (den (r i))).1 := by rw [hgs]; rfl
      have hs : (STl d ar lv (den i)).2 = (stF d (kd i) (STl d ar lv (den (l i))) (STl d ar lv (den (r i)))).2 := by rw [hgs]
      have R2 := R.put (show (STl d ar lv (den i)).2 < 1000000 by omega)
      refine ⟨sF τ 57 i (nI (STl d ar lv (den i)).2), ⟨by omega, F.F (by decide) (by decide), R2, fun k hk => ?_⟩, ?_⟩
      · rw [sF_nb (by omega)]; exact RL2 k hk
      · dsimp only at r1 r2 r3 r4 v1 v3 v5
        unfold stF at hs
        dsimp only at hs
        generalize (STl d ar lv (den (l i))).1 = xv at *
        generalize (STl d ar lv (den (r i))).1 = yv at *
        generalize (STl d ar lv (den (l i))).2 = A at *
        generalize (STl d ar lv (den (r i))).2 = B at *
        generalize hSV : (STl d ar lv (den i)).1 = sv at *
        generalize hSS : (STl d ar lv (den i)).2 = ss at *
        have fin : ∀ q, ss = d (kd i) + q → f_X10_settlesAll_J192 N (f_X10_settlesAll_L3 N (f_X10_settlesAll_J218 N) fu) (f_X10_settlesAll_J218 N) (nI i) (nI q) τ = f_X10_settlesAll_L3 N (f_X10_settlesAll_J218 N) fu (nI (i + 1)) (sF τ 57 i (nI ss)) := fun q hq => by
          unfold f_X10_settlesAll_J192
          rw [xld_n (by omega) (by omega), obind, g1, xld_n (by omega) (by omega), obind, D2.1 _ a1, nI_add, ← hq, xst_n (by omega) (by omega), obind, nI_1]
        have j164 : ∀ by_, by_ ≤ 1 → ss = d (kd i) + (if xv = by_ then A else B) → f_X10_settlesAll_J164 N (f_X10_settlesAll_L3 N (f_X10_settlesAll_J218 N) fu) (f_X10_settlesAll_J218 N) (nI i) (nI (l i)) (nI (r i)) (nI by_) τ = f_X10_settlesAll_L3 N (f_X10_settlesAll_J218 N) fu (nI (i + 1)) (sF τ 57 i (nI ss)) := fun by_ hby hq => by
          unfold f_X10_settlesAll_J164 f_X10_settlesAll_J190
          rw [xld_n (by omega) (by omega), obind, v1]
          by_cases c1 : xv = by_
          · rw [if_pos (by rw [c1]), xld_n (by omega) (by omega), obind, r1]
            rw [if_pos c1] at hq
            exact fin A hq
          · rw [if_neg (neN (by omega) (by omega) c1), xld_n (by omega) (by omega), obind, r3]
            rw [if_neg c1] at hq
            exact fin B hq
        have j94 : ∀ by_, by_ ≤ 1 → (sv = by_ → ss = d (kd i) + (if xv = by_ ∧ yv = by_ then min A B else if xv = by_ then A else B)) → (sv ≠ by_ → ss = d (kd i) + max A B) → f_X10_settlesAll_J94 N (f_X10_settlesAll_L3 N (f_X10_settlesAll_J218 N) fu) (f_X10_settlesAll_J218 N) (nI i) (nI (l i)) (nI (r i)) (nI (max A B)) (nI by_) τ = f_X10_settlesAll_L3 N (f_X10_settlesAll_J218 N) fu (nI (i + 1)) (sF τ 57 i (nI ss)) := fun by_ hby q1 q2 => by
          unfold f_X10_settlesAll_J94
          rw [xld_n (by omega) (by omega), obind, v5]
          by_cases c0 : sv = by_
          · have q3 := q1 c0
            have j135 : f_X10_settlesAll_J135 N (f_X10_settlesAll_L3 N (f_X10_settlesAll_J218 N) fu) (f_X10_settlesAll_J218 N) (nI i) (nI (l i)) (nI (r i)) (nI by_) (nI (min A B)) τ = f_X10_settlesAll_L3 N (f_X10_settlesAll_J218 N) fu (nI (i + 1)) (sF τ 57 i (nI ss)) := by
              unfold f_X10_settlesAll_J135
              rw [xld_n (by omega) (by omega), obind, v1]
              by_cases c1 : xv = by_
              · rw [if_pos (by rw [c1]), xld_n (by omega) (by omega), obind, v3]
                by_cases c2 : yv = by_
                · rw [if_pos (by rw [c2])]
                  unfold f_X10_settlesAll_J190
                  rw [if_pos ⟨c1, c2⟩] at q3
                  exact fin _ q3
                · rw [if_neg (neN (by omega) (by omega) c2)]
                  rw [if_neg (fun z => c2 z.2)] at q3
                  exact j164 by_ hby q3
              · rw [if_neg (neN (by omega) (by omega) c1)]
                rw [if_neg (fun z => c1 z.1)] at q3
                exact j164 by_ hby q3
            rw [if_pos (by rw [c0]), xld_n (by omega) (by omega), obind, r1, xld_n (by omega) (by omega), obind, r3]
            by_cases c3 : B ≤ A
            · rw [if_pos ((nLe (by omega) (by omega)).mpr c3), obind]
              rw [Nat.min_eq_right c3] at j135
              exact j135
            · rw [if_neg (fun z => c3 ((nLe (by omega) (by omega)).mp z)), obind]
              rw [Nat.min_eq_left (by omega)] at j135
              exact j135
          · rw [if_neg (neN (by omega) (by omega) c0)]
            exact fin _ (q2 c0)
        have j55 : f_X10_settlesAll_J55 N (f_X10_settlesAll_L3 N (f_X10_settlesAll_J218 N) fu) (f_X10_settlesAll_J218 N) (nI i) (nI (l i)) (nI (r i)) (nI (max A B)) τ = f_X10_settlesAll_L3 N (f_X10_settlesAll_J218 N) fu (nI (i + 1)) (sF τ 57 i (nI ss)) := by
          unfold f_X10_settlesAll_J55 f_X10_settlesAll_J72
          rw [xld_n (by omega) (by omega), obind, g1]
          by_cases c1 : kd i = 1
          · rw [if_pos (show nI (kd i) = 1 by rw [c1]; rfl), obind, if_pos (show nI (kd i) = 1 by rw [c1]; rfl)]
            rw [c1] at hs hv
            have hv2 : sv = xv * yv := hv
            refine j94 0 (by omega) (fun q => ?_) (fun q => ?_)
            · rw [hs, if_pos ⟨rfl, by rw [← hv2]; exact q⟩, c1]
            · rw [hs, if_neg (fun z => q (by rw [hv2]; exact z.2)), if_neg (fun z => by omega), c1]
          · rw [if_neg (show ¬ nI (kd i) = 1 from neN (b := 1) (by omega) (by omega) c1), obind, if_neg (show ¬ nI (kd i) = 1 from neN (b := 1) (by omega) (by omega) c1), obind]
            by_cases c2 : kd i = 2
            · rw [if_pos (show nI (kd i) = 2 by rw [c2]; rfl)]
              rw [c2] at hs hv
              have hv2 : sv = max xv yv := hv
              refine j94 1 (by omega) (fun q => ?_) (fun q => ?_)
              · rw [hs, if_neg (fun z => by omega), if_pos ⟨rfl, by rw [← hv2]; exact q⟩, c2]
              · rw [hs, if_neg (fun z => by omega), if_neg (fun z => q (by rw [hv2]; exact z.2)), c2]
            · rw [if_neg (show ¬ nI (kd i) = 2 from neN (b := 2) (by omega) (by omega) c2)]
              refine fin _ ?_
              rw [hs, if_neg (fun z => c1 z.1), if_neg (fun z => c2 z.1)]
        rw [f_X10_settlesAll_L3, H2.2.2.1, if_neg (fun z => by have := (nLe (by omega) (by omega)).mp z; omega), xld_n (by omega) (by omega), obind, g2, xld_n (by omega) (by omega), obind, g3, xld_n (by omega) (by omega), obind, r1, xld_n (by omega) (by omega), obind, r3]
        by_cases c1 : A ≤ B
        · rw [if_pos ((nLe (by omega) (by omega)).mpr c1), obind]
          rw [Nat.max_eq_right c1] at j55
          exact j55
        · rw [if_neg (fun z => c1 ((nLe (by omega) (by omega)).mp z)), obind]
          rw [Nat.max_eq_left (by omega)] at j55
          exact j55) (fun fu τ ⟨_, F, _, _⟩ => by
      have H2 := H.fr F (by decide) (by decide) (by decide) (by decide)
      rw [f_X10_settlesAll_L3, H2.2.2.1, if_pos ((nLe (by omega) (by omega)).mpr (Nat.le_refl _))]) (n - 27) N 27 σ (by omega) (by omega) ⟨by omega, FrM.rf _ _ σ, fun k hk => by
        dsimp only; rw [st_leaf hT lfM_ok hk]; exact RL k hk, RL⟩
  exact ⟨τ, e, F, R, RL2⟩
end
