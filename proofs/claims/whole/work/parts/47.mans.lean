section
/-! Answers of the reference's nets. -/
theorem outs_eq {bs : Blk} {n : Nat} {den oz : Nat → Nat} (h : ∀ i, i < wid bs + 1 → den (oz i) = outT (nets bs) i) : (fun t => ∃ i, i ≤ wid bs ∧ t = den (oz i)) = OUT bs := by
  funext t
  refine propext ⟨fun ⟨i, i1, i2⟩ => ⟨i, i1, by rw [i2, h i (by omega)]⟩, fun ⟨i, i1, i2⟩ => ⟨i, i1, by rw [i2, h i (by omega)]⟩⟩
theorem m_gates (N : Nat) (hN : 2048 < N) {σ : Wd} {n : Nat} {kd l r den oz d ar : Nat → Nat} {bs : Blk} (H : LDp σ n kd l r den oz bs d ar) {k : Option Nat} (hk : ∀ q, k = some q → q < 4) : f_X10_manyUsed N (kindI k) 1 σ = some (nI (gcnt (OUT bs) k), σ) := by
  classical
  obtain ⟨HN, HO, HD, HU, -⟩ := H
  have hX : ∀ j, j < 2048 → σ.1 56 j = nI (if j < n ∧ ∃ o, o < n ∧ (∃ i, i < wid bs + 1 ∧ o = oz i) ∧ sub (den j) (den o) then 1 else 0) ∧ (if j < n ∧ ∃ o, o < n ∧ (∃ i, i < wid bs + 1 ∧ o = oz i) ∧ sub (den j) (den o) then 1 else 0) < 4 := fun j hj => by
    rcases HU j hj with ⟨a, b⟩ | ⟨a, b⟩
    · rw [if_pos a]; exact ⟨b.trans (congrArg nI (show (0 ||| 1 : Nat) = 1 by decide)), by omega⟩
    · rw [if_neg a]; exact ⟨b, by omega⟩
  obtain ⟨f, hf⟩ : ∃ f : Nat → Bool, ∀ j, f j = true ↔ (j < n ∧ ∃ o, o < n ∧ (∃ i, i < wid bs + 1 ∧ o = oz i) ∧ sub (den j) (den o)) ∧ ∀ q, k = some q → kd j = q := ⟨fun j => decide ((j < n ∧ ∃ o, o < n ∧ (∃ i, i < wid bs + 1 ∧ o = oz i) ∧ sub (den j) (den o)) ∧ ∀ q, k = some q → kd j = q), fun j => decide_eq_true_iff⟩
  have e := mused_loop N hN HN (X := fun j => if j < n ∧ ∃ o, o < n ∧ (∃ i, i < wid bs + 1 ∧ o = oz i) ∧ sub (den j) (den o) then 1 else 0) (mk := 1) hX (by omega) hk (f := f) (fun j => by
    rw [hf]
    by_cases c : j < n ∧ ∃ o, o < n ∧ (∃ i, i < wid bs + 1 ∧ o = oz i) ∧ sub (den j) (den o)
    · rw [if_pos c]; exact ⟨fun z => ⟨rfl, z.2⟩, fun z => ⟨c, z.2⟩⟩
    · rw [if_neg c]; exact ⟨fun z => absurd z.1 c, fun z => absurd z.1 (by decide)⟩)
  have e2 : f_X10_manyUsed N (kindI k) 1 σ = _ := e
  rw [e2, ← outs_eq (n := n) HD, mgcnt_eq HN.1 HO.2.2.2 hf]
theorem m_of (N : Nat) {σ : Wd} {n w : Nat} {oz W : Nat → Nat} (hn : n ≤ 2048) (HO : MOG σ n w oz) (hW : RW σ 57 n W) {i : Nat} (hi : i ≤ w) {α : Type} (f : Int32 → Option α) : ((xld σ 60 13 (nI i)).bind fun v => (xld σ 57 2048 v).bind f) = f (nI (W (oz i))) := by
  have hw := HO.1
  have hz := HO.2.2.2 i (by omega)
  rw [xld_n (by omega) (by omega), obind, HO.2.2.1 i (by omega), xld_n (by omega) (by omega), obind, (hW (oz i) hz).1]
theorem ld_tm {σ : Wd} {n : Nat} {kd l r den oz d ar : Nat → Nat} {bs : Blk} (H : LDp σ n kd l r den oz bs d ar) {i : Nat} (hi : i < wid bs + 1) : TM d ar (den (oz i)) = oTM bs d ar i := by
  unfold oTM; rw [H.2.2.1 i hi]
theorem m_last (N : Nat) (hN : 2048 < N) {σ : Wd} {n : Nat} {kd l r den oz d ar : Nat → Nat} {bs : Blk} (H : LDp σ n kd l r den oz bs d ar) : f_X10_lastOut N σ = some (nI (aLast bs d ar), σ) ∧ aLast bs d ar < 1000000 := by
  have h1 := H.1.2.1
  have e : mxT (fun i => TM d ar (den (oz i))) (wid bs + 1) = aLast bs d ar := mxT_cg _ (fun j hj => ld_tm H hj)
  refine ⟨?_, ?_⟩
  · rw [mlast_ok N hN h1 H.2.1 H.2.2.2.2.1, e]
  · rw [← e]
    exact mxT_lt (by omega) _ (fun j hj => (H.2.2.2.2.1 (oz j) (H.2.1.2.2.2 j hj)).2)
theorem m_deep (N : Nat) (hN : 2048 < N) {σ : Wd} {n : Nat} {kd l r den oz d ar : Nat → Nat} {bs : Blk} (H : LDp σ n kd l r den oz bs d ar) : f_X10_deep_L30 N (f_X10_deep_J94 N) N 0 (nI (aLast bs d ar)) 0 σ = some (nI (aDeep bs d ar), σ) := by
  obtain ⟨HN, HO, HD, -, HR, HS, -⟩ := id H
  have hw := HO.1
  have hn := HN.2.1
  obtain ⟨-, hlast⟩ := m_last N hN H
  have hb : ∀ j, j < wid bs + 1 → (if oTM bs d ar j = aLast bs d ar then (DP d ar (outT (nets bs) j)).2 else 0) < 1000000 := fun j hj => by
    have := (HS (oz j) (HO.2.2.2 j hj)).2
    dsimp only at this
    rw [HD j hj] at this
    split
    · exact this
    · omega
  obtain ⟨c, rfl, e⟩ := lp_up (g := fun fu i c => f_X10_deep_L30 N (f_X10_deep_J94 N) fu c (nI (aLast bs d ar)) (nI i) σ) (E := fun c => f_X10_deep_J94 N c σ) (P := fun i c => c = nI (mxT (fun i => if oTM bs d ar i = aLast bs d ar then (DP d ar (outT (nets bs) i)).2 else 0) i)) (m := wid bs + 1) (fun fu i c hi hc => by
      subst hc
      have hz := HO.2.2.2 i hi
      obtain ⟨r1, r2⟩ := HR (oz i) hz
      obtain ⟨s1, s2⟩ := HS (oz i) hz
      dsimp only at r1 r2 s1 s2
      rw [ld_tm H hi] at r1 r2
      rw [HD i hi] at s1 s2
      have hlt := mxT_lt (b := 1000000) (by omega) i (fun j hj => hb j (by omega))
      refine ⟨nI (mxT (fun i => if oTM bs d ar i = aLast bs d ar then (DP d ar (outT (nets bs) i)).2 else 0) (i + 1)), rfl, ?_⟩
      rw [mxT]
      generalize mxT (fun i => if oTM bs d ar i = aLast bs d ar then (DP d ar (outT (nets bs) i)).2 else 0) i = M at hlt ⊢
      rw [f_X10_deep_L30, HO.2.1, if_neg (fun z => by have := (nLe (by omega) (by omega)).mp z; omega), xld_n (by omega) (by omega), obind, HO.2.2.1 i hi, xld_n (by omega) (by omega), obind, r1]
      by_cases c1 : oTM bs d ar i = aLast bs d ar
      · rw [if_pos (by rw [c1]), if_pos c1, obind, xld_n (by omega) (by omega), obind, s1]
        by_cases c2 : (DP d ar (outT (nets bs) i)).2 ≤ M
        · rw [if_pos ((nLe (by omega) (by omega)).mpr c2), nI_1, Nat.max_eq_left c2]
        · rw [if_neg (fun z => c2 ((nLe (by omega) (by omega)).mp z)), obind, xld_n (by omega) (by omega), obind, s1, nI_1, Nat.max_eq_right (by omega)]
      · rw [if_neg (neN (by omega) (by omega) c1), if_neg c1, nI_1, Nat.max_eq_left (Nat.zero_le _)]) (fun fu c hc => by
      rw [f_X10_deep_L30, HO.2.1, if_pos ((nLe (by omega) (by omega)).mpr (Nat.le_refl _))]) (wid bs + 1) N 0 0 (by omega) (by omega) rfl
  exact e
theorem m_times (N : Nat) (hN : 2048 < N) {σ : Wd} {n : Nat} {kd l r den oz d ar : Nat → Nat} {bs : Blk} (H : LDp σ n kd l r den oz bs d ar) : f_X10_times_L19 N (f_X10_times_J102 N) N 0 0 σ = some (nI (aUnl bs d ar), σ) := by
  obtain ⟨HN, HO, HD, -, HR, -⟩ := id H
  have hw := HO.1
  have hn := HN.2.1
  have hrd : ∀ i, i < wid bs + 1 → ∀ {α : Type} (f : Int32 → Option α), ((xld σ 60 13 (nI i)).bind fun v => (xld σ 57 2048 v).bind f) = f (nI (oTM bs d ar i)) := fun i hi α f => by
    rw [m_of N hn HO HR (show i ≤ wid bs by omega), ld_tm H hi]
  have hbd : ∀ i, i < wid bs + 1 → oTM bs d ar i < 1000000 := fun i hi => by
    have := (HR (oz i) (HO.2.2.2 i hi)).2
    dsimp only at this
    rw [ld_tm H hi] at this
    exact this
  obtain ⟨c, rfl, e⟩ := lp_up (g := fun fu i c => f_X10_times_L19 N (f_X10_times_J102 N) fu c (nI i) σ) (E := fun c => f_X10_times_J102 N c σ) (P := fun i c => c = nI (unl (oTM bs d ar) i)) (m := wid bs + 1) (fun fu i c hi hc => by
      subst hc
      have hul := unl_le (oTM bs d ar) i
      refine ⟨nI (unl (oTM bs d ar) (i + 1)), rfl, ?_⟩
      rw [f_X10_times_L19, HO.2.1, if_neg (fun z => by have := (nLe (by omega) (by omega)).mp z; omega)]
      obtain ⟨x, hx, e⟩ := lp_up (g := fun f2 j x => f_X10_times_L33 N (f_X10_times_J83 N (f_X10_times_L19 N (f_X10_times_J102 N) fu) (f_X10_times_J102 N)) f2 (nI (unl (oTM bs d ar) i)) (nI i) x (nI j) σ) (E := fun x => f_X10_times_J83 N (f_X10_times_L19 N (f_X10_times_J102 N) fu) (f_X10_times_J102 N) (nI (unl (oTM bs d ar) i)) (nI i) x σ) (P := fun j x => (x = 1 ∧ ∀ q, q < j → oTM bs d ar q ≠ oTM bs d ar i) ∨ (x = 0 ∧ ∃ q, q < j ∧ oTM bs d ar q = oTM bs d ar i)) (m := i) (fun f2 j x hj hx => by
          have h1 := hbd i hi
          have h2 := hbd j (by omega)
          rcases hx with ⟨rfl, q1⟩ | ⟨rfl, q, q1, q2⟩
          · by_cases c1 : oTM bs d ar j = oTM bs d ar i
            · refine ⟨0, Or.inr ⟨rfl, j, by omega, c1⟩, ?_⟩
              rw [f_X10_times_L33, if_neg (fun z => by have := (nLe (by omega) (by omega)).mp z; omega), if_neg (show ¬ (1 : Int32) = 0 by decide), hrd j (by omega), hrd i hi, if_pos (by rw [c1]), nI_1]
            · refine ⟨1, Or.inl ⟨rfl, fun q hq => ?_⟩, ?_⟩
              · by_cases hqj : q = j
                · rw [hqj]; exact c1
                · exact q1 q (by omega)
              · rw [f_X10_times_L33, if_neg (fun z => by have := (nLe (by omega) (by omega)).mp z; omega), if_neg (show ¬ (1 : Int32) = 0 by decide), hrd j (by omega), hrd i hi, if_neg (neN (by omega) (by omega) c1), nI_1]
          · refine ⟨0, Or.inr ⟨rfl, q, by omega, q2⟩, ?_⟩
            rw [f_X10_times_L33, if_neg (fun z => by have := (nLe (by omega) (by omega)).mp z; omega), if_pos rfl, nI_1]) (fun f2 x hx => by
          rw [f_X10_times_L33, if_pos ((nLe (by omega) (by omega)).mpr (Nat.le_refl _))]) i N 0 1 (by omega) (by omega) (Or.inl ⟨rfl, fun q hq => absurd hq (Nat.not_lt_zero q)⟩)
      refine Eq.trans e ?_
      unfold f_X10_times_J83
      rw [unl]
      rcases hx with ⟨rfl, q1⟩ | ⟨rfl, q, q1, q2⟩
      · rw [if_neg (show ¬ (1 : Int32) = 0 by decide), if_pos q1, nI_1, nI_1]
      · rw [if_pos rfl, if_neg (fun z => z q q1 q2), nI_1, show nI (unl (oTM bs d ar) i) + 0 = nI (unl (oTM bs d ar) i) from nAddR _ 0]; rfl) (fun fu c hc => by
      rw [f_X10_times_L19, HO.2.1, if_pos ((nLe (by omega) (by omega)).mpr (Nat.le_refl _))]) (wid bs + 1) N 0 0 (by omega) (by omega) rfl
  exact e
theorem st_net {bs : Blk} (V : VB bs) {n : Nat} {den oz d ar lv : Nat → Nat} (h : ∀ i, i < wid bs + 1 → den (oz i) = outT (nets bs) i) {a b c i : Nat} (hi : i < wid bs + 1) : STl d ar (vaL a b c) (den (oz i)) = oST bs d ar a b c i := by
  unfold oST; rw [h i hi]
theorem m_adds (N : Nat) (hN : 2048 < N) {σ : Wd} {n : Nat} {kd l r den oz d ar : Nat → Nat} {bs : Blk} (HN : MNet σ n kd l r den) (HO : MOG σ n (wid bs) oz) (HD : ∀ i, i < wid bs + 1 → den (oz i) = outT (nets bs) i) (hb : dab d ar) {a b c : Nat} (hc : c ≤ 1) (HV : RW σ 58 n (fun k => (STl d ar (vaL a b c) (den k)).1)) : f_X10_adds_L41 N (f_X10_adds_J76 N) N 0 0 σ = some (nI (aAdds bs d ar a b c), σ) := by
  have hw := HO.1
  have hn := HN.2.1
  have hst := st_bd HN.1 lfM_ok hb (fun t _ => vaL_le (a := a) (b := b) hc t) (d := d) (ar := ar)
  have h1 : ∀ i, i < wid bs + 1 → (oST bs d ar a b c i).1 ≤ 1 := fun i hi => by
    have := (hst (oz i) (HO.2.2.2 i hi)).1
    unfold oST; rw [← HD i hi]; exact this
  obtain ⟨x, rfl, e⟩ := lp_up (g := fun fu i x => f_X10_adds_L41 N (f_X10_adds_J76 N) fu x (nI i) σ) (E := fun x => f_X10_adds_J76 N x σ) (P := fun i x => x = nI (obits (fun i => (oST bs d ar a b c i).1) i)) (m := wid bs + 1) (fun fu i x hi hx => by
      subst hx
      have hz := HO.2.2.2 i hi
      obtain ⟨w1, w2⟩ := HV (oz i) hz
      dsimp only at w1
      rw [HD i hi] at w1
      have w1' : σ.1 58 (oz i) = nI (oST bs d ar a b c i).1 := w1
      have h2 := h1 i hi
      have hlt := obits_lt (f := fun i => (oST bs d ar a b c i).1) i (fun j hj => h1 j (by omega))
      have hp := pow_in (show i < 32 by omega)
      have hp2 : (oST bs d ar a b c i).1 * 2 ^ i < 2 ^ 32 := Nat.lt_of_le_of_lt (Nat.mul_le_mul_right _ h2) (by omega)
      have hor : obits (fun i => (oST bs d ar a b c i).1) i ||| (oST bs d ar a b c i).1 * 2 ^ i = obits (fun i => (oST bs d ar a b c i).1) (i + 1) := or_add hlt
      refine ⟨nI (obits (fun i => (oST bs d ar a b c i).1) (i + 1)), rfl, ?_⟩
      rw [f_X10_adds_L41, HO.2.1, if_neg (fun z => by have := (nLe (by omega) (by omega)).mp z; omega), xld_n (by omega) (by omega), obind, HO.2.2.1 i hi, xld_n (by omega) (by omega), obind, w1', nI_shl (by omega) hp2, nI_or (by omega) hp2, hor, nI_1]) (fun fu x hx => by
      rw [f_X10_adds_L41, HO.2.1, if_pos ((nLe (by omega) (by omega)).mpr (Nat.le_refl _))]) (wid bs + 1) N 0 0 (by omega) (by omega) rfl
  exact e
/-- what is settled, read off -/
theorem m_setl (N : Nat) (hN : 2048 < N) {σ : Wd} {n : Nat} {kd l r den oz d ar : Nat → Nat} {bs : Blk} (HN : MNet σ n kd l r den) (HO : MOG σ n (wid bs) oz) (HD : ∀ i, i < wid bs + 1 → den (oz i) = outT (nets bs) i) {a b c : Nat} (HV : RW σ 57 n (fun k => (STl d ar (vaL a b c) (den k)).2)) : (f_X10_lastOut N σ = some (nI (aSet bs d ar a b c), σ) ∧ aSet bs d ar a b c < 1000000) ∧ ∀ i, i ≤ wid bs → ∀ {α : Type} (f : Int32 → Option α), ((xld σ 60 13 (nI i)).bind fun v => (xld σ 57 2048 v).bind f) = f (nI (oST bs d ar a b c i).2) := by
  have hn := HN.2.1
  have e : mxT (fun i => (STl d ar (vaL a b c) (den (oz i))).2) (wid bs + 1) = aSet bs d ar a b c := mxT_cg _ (fun j hj => by unfold oST; rw [HD j hj])
  refine ⟨⟨?_, ?_⟩, fun i hi α f => ?_⟩
  · rw [mlast_ok N hN hn HO HV, e]
  · rw [← e]
    exact mxT_lt (by omega) _ (fun j hj => (HV (oz j) (HO.2.2.2 j hj)).2)
  · rw [m_of N hn HO HV hi]
    unfold oST; rw [HD i (by omega)]
end
