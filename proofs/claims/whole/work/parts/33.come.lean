/-! When gates come: all, the outcomes, the latest, the unlike ones. -/
theorem lp_find {R : Type} {g : Nat → Nat → R} {E : Nat → R} {Q : Nat → Prop} {m : Nat}
    (hs : ∀ fu i, i < m → ¬ Q i → g (fu + 1) i = g fu (i + 1)) (hq : ∀ fu i, i < m → Q i → g (fu + 1) i = E i) (he : ∀ fu, g (fu + 1) m = E m) :
    ∀ (c fu i : Nat), i + c = m → c < fu → ∃ j, i ≤ j ∧ j ≤ m ∧ (∀ k, i ≤ k → k < j → ¬ Q k) ∧ (j < m → Q j) ∧ g fu i = E j
  | 0, fu, i, h1, h2 => by
    obtain ⟨fu, rfl⟩ : ∃ f, fu = f + 1 := ⟨fu - 1, by omega⟩
    have hi : i = m := by omega
    subst hi
    exact ⟨i, Nat.le_refl _, Nat.le_refl _, fun k k1 k2 => by omega, fun h => by omega, he fu⟩
  | c + 1, fu, i, h1, h2 => by
    classical
    obtain ⟨fu, rfl⟩ : ∃ f, fu = f + 1 := ⟨fu - 1, by omega⟩
    by_cases hQ : Q i
    · exact ⟨i, Nat.le_refl _, by omega, fun k k1 k2 => by omega, fun _ => hQ, hq fu i (by omega) hQ⟩
    · obtain ⟨j, j1, j2, j3, j4, j5⟩ := lp_find hs hq he c fu (i + 1) (by omega) (by omega)
      refine ⟨j, by omega, j2, fun k k1 k2 => ?_, j4, by rw [hs fu i (by omega) hQ]; exact j5⟩
      by_cases hk : k = i
      · subst hk; exact hQ
      · exact j3 k (by omega) k2
theorem sm32 : ∀ k, k < 32 → ((nI k &&& 31).toBitVec.smod 32).toNat = k := by decide +kernel
theorem nI_shl {a k : Nat} (hk : k < 32) (h : a * 2 ^ k < 2 ^ 32) : nI a <<< (nI k &&& 31) = nI (a * 2 ^ k) := pk_shlN _ k (sm32 k hk) h
theorem nI_shr {a k : Nat} (ha : a < 2147483648) (hk : k < 32) : nI a >>> (nI k &&& 31) = nI (a / 2 ^ k) := pk_shrN ha _ k (sm32 k hk)
theorem nI_tb (n : Nat) : (nI n).toBitVec = BitVec.ofNat 32 n := rfl
theorem nI_or {a b : Nat} (ha : a < 2 ^ 32) (hb : b < 2 ^ 32) : nI a ||| nI b = nI (a ||| b) := by
  apply Int32.toBitVec_inj.mp
  rw [Int32.toBitVec_or, nI_tb, nI_tb, nI_tb]
  apply BitVec.eq_of_toNat_eq
  rw [BitVec.toNat_or, BitVec.toNat_ofNat, BitVec.toNat_ofNat, BitVec.toNat_ofNat, Nat.mod_eq_of_lt ha, Nat.mod_eq_of_lt hb, Nat.mod_eq_of_lt (Nat.or_lt_two_pow ha hb)]
theorem or_add {a b i : Nat} (h : a < 2 ^ i) : a ||| b * 2 ^ i = a + b * 2 ^ i := by
  rw [Nat.or_comm, Nat.mul_comm, ← Nat.two_pow_add_eq_or_of_lt h]; omega
theorem imax_n {a b : Nat} (ha : a < 2147483648) (hb : b < 2147483648) : imax (nI a) (nI b) = nI (max a b) := by
  unfold imax
  by_cases h : a < b
  · rw [if_pos ((nLt ha hb).mpr h), Nat.max_eq_right (by omega)]
  · rw [if_neg (fun z => h ((nLt ha hb).mp z)), Nat.max_eq_left (by omega)]
theorem imin_n {a b : Nat} (ha : a < 2147483648) (hb : b < 2147483648) : imin (nI a) (nI b) = nI (min a b) := by
  unfold imin
  by_cases h : b < a
  · rw [if_pos ((nLt hb ha).mpr h), Nat.min_eq_right (by omega)]
  · rw [if_neg (fun z => h ((nLt hb ha).mp z)), Nat.min_eq_left (by omega)]
theorem max_ok (N : Nat) {a b : Nat} (ha : a < 2147483648) (hb : b < 2147483648) (σ : Wd) : f_J9_max_7cf53 N (nI a) (nI b) σ = some (nI (max a b), σ) := by
  unfold f_J9_max_7cf53; rw [imax_n ha hb]
theorem min_ok (N : Nat) {a b : Nat} (ha : a < 2147483648) (hb : b < 2147483648) (σ : Wd) : f_J9_min_7cf53 N (nI a) (nI b) σ = some (nI (min a b), σ) := by
  unfold f_J9_min_7cf53; rw [imin_n ha hb]
/-- delays and arrivals, as the class holds them -/
def DA (σ : Wd) (d ar : Nat → Nat) : Prop := (∀ k, k < 4 → σ.1 30 k = nI (d k)) ∧ (∀ i, i < 25 → σ.1 31 i = nI (ar i))
def dab (d ar : Nat → Nat) : Prop := (∀ k, k < 4 → d k ≤ 9) ∧ (∀ i, i < 25 → ar i ≤ 99)
theorem DA.fr {σ τ : Wd} {ks : List Nat} {d ar : Nat → Nat} (H : DA σ d ar) (F : Fr ks σ τ) (h0 : 30 ∉ ks) (h1 : 31 ∉ ks) : DA τ d ar :=
  ⟨fun k hk => by rw [F.i h0]; exact H.1 k hk, fun k hk => by rw [F.i h1]; exact H.2 k hk⟩
section TIMES
variable {lf : Nat → Nat} {n : Nat} {kd l r den : Nat → Nat} {d ar : Nat → Nat}
theorem tm_leaf (h : NT lf n kd l r den) (hlf : LF lf) {k : Nat} (hk : k < 27) : TM d ar (den k) = tmL ar (lf k) := by
  rw [h.2.1 k hk]; exact fold_leaf (hlf.1 k hk)
theorem tm_gate (h : NT lf n kd l r den) {k : Nat} (hk : 27 ≤ k) (hn : k < n) : TM d ar (den k) = d (kd k) + max (TM d ar (den (l k))) (TM d ar (den (r k))) := by
  obtain ⟨a1, a2, a3, a4⟩ := h.2.2.1 k hk hn
  rw [a4]; exact fold_mk (TM_sym d) a1 _ _
theorem tmL_le (hb : dab d ar) (t : Nat) : tmL ar t ≤ 99 := by
  unfold tmL
  by_cases ht : t ≤ 24
  · rw [if_pos ht]; exact hb.2 t (by omega)
  · rw [if_neg ht]; omega
theorem tm_bd (h : NT lf n kd l r den) (hlf : LF lf) (hb : dab d ar) : ∀ k, k < n → TM d ar (den k) ≤ 99 + 9 * k := by
  intro k
  induction k using Nat.strongRecOn with
  | _ k ih =>
    intro hk
    by_cases hk2 : k < 27
    · rw [tm_leaf h hlf hk2]
      have := tmL_le hb (lf k)
      omega
    · obtain ⟨a1, a2, a3, a4⟩ := h.2.2.1 k (by omega) hk
      rw [tm_gate h (by omega) hk]
      have h1 := ih _ a2 (by omega)
      have h2 := ih _ a3 (by omega)
      have h3 := hb.1 _ a1
      omega
end TIMES
/-- numbers in a row, one a gate -/
def RW (σ : Wd) (K n : Nat) (W : Nat → Nat) : Prop := ∀ k, k < n → σ.1 K k = nI (W k) ∧ W k < 1000000
theorem RW.fr {σ τ : Wd} {ks : List Nat} {K n : Nat} {W : Nat → Nat} (H : RW σ K n W) (F : Fr ks σ τ) (hK : K ∉ ks) : RW τ K n W := fun k hk => by
  rw [F.i hK]; exact H k hk
theorem RW.put {σ : Wd} {K i : Nat} {W : Nat → Nat} (H : RW σ K i W) (h : W i < 1000000) : RW (sF σ K i (nI (W i))) K (i + 1) W := fun k hk => by
  by_cases hki : k = i
  · subst hki; exact ⟨sF_eq, h⟩
  · rw [sF_nb hki]; exact H k (by omega)
theorem arrive_ok (N : Nat) (hN : 512 < N) {σ : Wd} {d ar : Nat → Nat} (hD : DA σ d ar) (hb : dab d ar) : ∃ τ, f_X8_inputsArrive N σ = some τ ∧ Fr [32] σ τ ∧ RW τ 32 27 (fun k => tmL ar (lfC k)) := by
  unfold f_X8_inputsArrive
  rw [xst_l (i := 0) (by omega) (by omega), obind, xst_l (i := 1) (by omega) (by omega), obind]
  have hb2 : ∀ k, tmL ar (lfC k) < 1000000 := fun k => by have := tmL_le hb (lfC k); omega
  obtain ⟨τ, ⟨F, h⟩, e⟩ := lp_up (g := fun fu i σ => f_X8_inputsArrive_L16 N (f_X8_inputsArrive_J42 N) fu (nI i) σ) (E := f_X8_inputsArrive_J42 N) (P := fun i τ => Fr [32] σ τ ∧ RW τ 32 (i + 2) (fun k => tmL ar (lfC k))) (m := 25) (fun fu i τ hi hP => by
      have hle : ¬ 25 ≤ i := by omega
      have hr := (hD.fr hP.1 (by decide) (by decide)).2 i hi
      have ht : tmL ar (lfC (i + 2)) = ar i := by
        have hl : lfC (i + 2) = i := by unfold lfC; rw [if_neg (by omega), if_neg (by omega)]; rfl
        unfold tmL
        rw [hl, if_pos (by omega)]
      have hp := hP.2.put (hb2 (i + 2))
      refine ⟨sF τ 32 (2 + i) (nI (ar i)), ⟨hP.1.F (by decide), ?_⟩, ?_⟩
      · rw [ht, Nat.add_comm i 2] at hp; rw [show i + 1 + 2 = 2 + i + 1 by omega]; exact hp
      · simp (disch := omega) only [f_X8_inputsArrive_L16, L25, nLe, hle, if_false, xld_n, obind, hr, L2, nI_add, xst_n, nI_1]) (fun fu τ hP => by
      simp (disch := omega) only [f_X8_inputsArrive_L16, L25, nLe, Nat.le_refl, if_true]) 25 N 0 (sF (sF σ 32 0 0) 32 1 0) (by omega) (by omega) ⟨((Fr.rf _ σ).F (by decide)).F (by decide), fun k hk => by
        have : k = 0 ∨ k = 1 := by omega
        rcases this with rfl | rfl
        · exact ⟨by rw [sF_nb (by decide), sF_eq]; rfl, hb2 0⟩
        · exact ⟨by rw [sF_eq]; rfl, hb2 1⟩⟩
  refine ⟨τ, ?_, F, h⟩
  exact e
theorem later_ok (N : Nat) {σ : Wd} {n m : Nat} {kd l r den W : Nat → Nat} (H : GR σ n kd l r den) (hW : RW σ 32 m W) {k : Nat} (hk : 27 ≤ k) (hn : k < n) (hm : k ≤ m) : f_X8_laterPart N (nI k) σ = some (nI (max (W (l k)) (W (r k))), σ) := by
  obtain ⟨hT, hnn, h45, h18, h19, h20, -⟩ := H
  obtain ⟨a1, a2, a3, -⟩ := hT.2.2.1 k hk hn
  obtain ⟨w1, w2⟩ := hW (l k) (by omega)
  obtain ⟨w3, w4⟩ := hW (r k) (by omega)
  simp (disch := omega) only [f_X8_laterPart, xld_n, obind, h19 k hk hn, h20 k hk hn, w1, w3, max_ok]
theorem come_ok (N : Nat) (hN : 512 < N) {σ : Wd} {n : Nat} {kd l r den d ar : Nat → Nat} (H : GR σ n kd l r den) (hD : DA σ d ar) (hb : dab d ar) : ∃ τ, f_X8_come N σ = some τ ∧ Fr [32] σ τ ∧ RW τ 32 n (fun k => TM d ar (den k)) := by
  obtain ⟨hT, hn, -⟩ := id H
  have h27 := hT.1
  unfold f_X8_come
  obtain ⟨τ0, e0, F0, R0⟩ := arrive_ok N hN hD hb
  rw [e0, obind]
  obtain ⟨τ, ⟨-, F, R⟩, e⟩ := lp_up (g := fun fu i σ => f_X8_come_L7 N (f_X8_come_J45 N) fu (nI i) σ) (E := f_X8_come_J45 N) (P := fun i τ => 27 ≤ i ∧ Fr [32] σ τ ∧ RW τ 32 i (fun k => TM d ar (den k))) (m := n) (fun fu i τ hi hP => by
      obtain ⟨hi27, F, R⟩ := hP
      have hle : ¬ n ≤ i := by omega
      have H2 := H.fr F (by decide) (by decide) (by decide) (by decide)
      have D2 := hD.fr F (by decide) (by decide)
      have hkd := (hT.2.2.1 i hi27 hi).1
      have hg := tm_gate hT (d := d) (ar := ar) hi27 hi
      have hbd := tm_bd hT lfC_ok hb i hi
      have hp := R.put (show TM d ar (den i) < 1000000 by omega)
      refine ⟨sF τ 32 i (nI (TM d ar (den i))), ⟨by omega, F.F (by decide), hp⟩, ?_⟩
      rw [hg]
      simp (disch := omega) only [f_X8_come_L7, H2.2.2.1, nLe, hle, if_false, later_ok N H2 R hi27 hi (Nat.le_refl i), obind, H2.2.2.2.1 i hi27 hi, xld_n, D2.1 _ hkd, nI_add, xst_n, nI_1, Nat.add_comm]) (fun fu τ hP => by
      have h45 := (H.fr hP.2.1 (by decide) (by decide) (by decide) (by decide)).2.2.1
      simp (disch := omega) only [f_X8_come_L7, h45, nLe, Nat.le_refl, if_true]) (n - 27) N 27 τ0 (by omega) (by omega) ⟨by omega, F0, fun k hk => by
        show τ0.1 32 k = nI (TM d ar (den k)) ∧ TM d ar (den k) < 1000000
        rw [tm_leaf hT lfC_ok hk]; exact R0 k hk⟩
  exact ⟨τ, e, F, R⟩
/-- the greatest of the first -/
def mxT (f : Nat → Nat) : Nat → Nat
  | 0 => 0
  | i + 1 => max (mxT f i) (f i)
theorem mxT_lt {f : Nat → Nat} {b : Nat} (hb : 0 < b) : ∀ i, (∀ j, j < i → f j < b) → mxT f i < b
  | 0, _ => hb
  | i + 1, h => by
    have h1 := mxT_lt hb i (fun j hj => h j (by omega))
    have h2 := h i (by omega)
    unfold mxT; omega
theorem mxT_cg {f g : Nat → Nat} : ∀ i, (∀ j, j < i → f j = g j) → mxT f i = mxT g i
  | 0, _ => rfl
  | i + 1, h => by unfold mxT; rw [mxT_cg i (fun j hj => h j (by omega)), h i (by omega)]
theorem last_ok (N : Nat) (hN : 512 < N) {σ : Wd} {n w : Nat} {den oz W : Nat → Nat} (hn : n ≤ 512) (HO : OG σ n den w oz) (hW : RW σ 32 n W) : f_X8_lastOutcome N σ = some (nI (mxT (fun i => W (oz i)) (w + 1)), σ) := by
  unfold f_X8_lastOutcome
  have hw := HO.1
  obtain ⟨c, rfl, e⟩ := lp_up (g := fun fu i c => f_X8_lastOutcome_L4 N (f_X8_lastOutcome_J33 N) fu c (nI i) σ) (E := fun c => f_X8_lastOutcome_J33 N c σ) (P := fun i c => c = nI (mxT (fun i => W (oz i)) i)) (m := w + 1) (fun fu i c hi hP => by
      subst hP
      have hle : ¬ w < i := by omega
      have hz := HO.2.2.2.2 i (by omega)
      obtain ⟨w1, w2⟩ := hW (oz i) hz
      have hlt := mxT_lt (f := fun i => W (oz i)) (b := 1000000) (by omega) i (fun j hj => (hW (oz j) (HO.2.2.2.2 j (by omega))).2)
      refine ⟨nI (mxT (fun i => W (oz i)) (i + 1)), rfl, ?_⟩
      simp (disch := omega) only [f_X8_lastOutcome_L4, HO.2.1, nLt, hle, if_false, og_ok N HO (show i ≤ w by omega), obind, xld_n, w1, max_ok, nI_1, mxT]) (fun fu c hP => by
      simp (disch := omega) only [f_X8_lastOutcome_L4, HO.2.1, nLt, Nat.lt_succ_self, if_true]) (w + 1) N 0 0 (by omega) (by omega) rfl
  exact e
theorem of_ok (N : Nat) {σ : Wd} {n w : Nat} {den oz W : Nat → Nat} (hn : n ≤ 512) (HO : OG σ n den w oz) (hW : RW σ 32 n W) {i : Nat} (hi : i ≤ w) : f_X8_ofOutcome N (nI i) σ = some (nI (W (oz i)), σ) := by
  have hw := HO.1
  have hz := HO.2.2.2.2 i hi
  simp (disch := omega) only [f_X8_ofOutcome, L0, nLe, Nat.zero_le, if_true, og_ok N HO hi, obind, xld_n, (hW (oz i) hz).1]
theorem ofm_ok (N : Nat) (hN : 512 < N) {σ : Wd} {n w : Nat} {den oz W : Nat → Nat} (hn : n ≤ 512) (HO : OG σ n den w oz) (hW : RW σ 32 n W) : f_X8_ofOutcome N (-1) σ = some (nI (mxT (fun i => W (oz i)) (w + 1)), σ) := by
  unfold f_X8_ofOutcome
  rw [if_neg (by decide), last_ok N hN hn HO hW, obind]
/-- how many are unlike all before -/
def unl (f : Nat → Nat) : Nat → Nat
  | 0 => 0
  | i + 1 => unl f i + if (∀ j, j < i → f j ≠ f i) then 1 else 0
theorem unl_le (f : Nat → Nat) : ∀ i, unl f i ≤ i
  | 0 => Nat.le_refl 0
  | i + 1 => by have := unl_le f i; unfold unl; split <;> omega
theorem unl_cg {f g : Nat → Nat} : ∀ i, (∀ j, j < i → f j = g j) → unl f i = unl g i
  | 0, _ => rfl
  | i + 1, h => by
    have h1 : (∀ j, j < i → f j ≠ f i) ↔ (∀ j, j < i → g j ≠ g i) := by
      constructor
      · intro q j hj; rw [← h j (by omega), ← h i (by omega)]; exact q j hj
      · intro q j hj; rw [h j (by omega), h i (by omega)]; exact q j hj
    unfold unl
    rw [unl_cg i (fun j hj => h j (by omega))]
    by_cases hc : ∀ j, j < i → f j ≠ f i
    · rw [if_pos hc, if_pos (h1.mp hc)]
    · rw [if_neg hc, if_neg (fun z => hc (h1.mpr z))]
theorem unlike_ok (N : Nat) (hN : 512 < N) {σ : Wd} {n w : Nat} {den oz W : Nat → Nat} (hn : n ≤ 512) (HO : OG σ n den w oz) (hW : RW σ 32 n W) : f_X8_unlikeTimes N σ = some (nI (unl (fun i => W (oz i)) (w + 1)), σ) := by
  unfold f_X8_unlikeTimes
  have hw := HO.1
  obtain ⟨c, rfl, e⟩ := lp_up (g := fun fu i c => f_X8_unlikeTimes_L4 N (f_X8_unlikeTimes_J58 N) fu c (nI i) σ) (E := fun c => f_X8_unlikeTimes_J58 N c σ) (P := fun i c => c = nI (unl (fun i => W (oz i)) i)) (m := w + 1) (fun fu i c hi hP => by
      subst hP
      have hle : ¬ w < i := by omega
      have hun := unl_le (fun i => W (oz i)) i
      have hz := HO.2.2.2.2 i (by omega)
      obtain ⟨w1, w2⟩ := hW (oz i) hz
      refine ⟨nI (unl (fun i => W (oz i)) (i + 1)), rfl, ?_⟩
      simp (disch := omega) only [f_X8_unlikeTimes_L4, HO.2.1, nLt, hle, if_false]
      obtain ⟨j, -, j2, j3, j4, j5⟩ := lp_find (g := fun f2 j => f_X8_unlikeTimes_L15 N (f_X8_unlikeTimes_J43 N (f_X8_unlikeTimes_L4 N (f_X8_unlikeTimes_J58 N) fu) (f_X8_unlikeTimes_J58 N)) f2 (nI (unl (fun i => W (oz i)) i)) (nI i) (nI j) σ) (E := fun j => f_X8_unlikeTimes_J43 N (f_X8_unlikeTimes_L4 N (f_X8_unlikeTimes_J58 N) fu) (f_X8_unlikeTimes_J58 N) (nI (unl (fun i => W (oz i)) i)) (nI i) (nI j) σ) (Q := fun j => W (oz j) = W (oz i)) (m := i) (fun f2 j hj hq => by
          have hle : ¬ i ≤ j := by omega
          have hzj := (hW (oz j) (HO.2.2.2.2 j (by omega))).2
          simp (disch := omega) only [f_X8_unlikeTimes_L15, nLe, hle, if_false, of_ok N hn HO hW (show j ≤ w by omega), of_ok N hn HO hW (show i ≤ w by omega), obind, nEq, hq, nI_1]) (fun f2 j hj hq => by
          have hle : ¬ i ≤ j := by omega
          simp (disch := omega) only [f_X8_unlikeTimes_L15, nLe, hle, if_false, of_ok N hn HO hW (show j ≤ w by omega), of_ok N hn HO hW (show i ≤ w by omega), obind, hq, if_true]) (fun f2 => by
          simp (disch := omega) only [f_X8_unlikeTimes_L15, nLe, Nat.le_refl, if_true]) i N 0 (by omega) (by omega)
      refine Eq.trans j5 ?_
      by_cases hji : j = i
      · subst hji
        simp (disch := omega) only [f_X8_unlikeTimes_J43, if_true, nI_1, unl]
        rw [if_pos (fun k hk => j3 k (by omega) hk)]
      · simp (disch := omega) only [f_X8_unlikeTimes_J43, nEq, hji, if_false, nI_1, unl]
        rw [if_neg (fun z => z j (by omega) (j4 (by omega)))]
        simp only [Nat.add_zero]) (fun fu c hP => by
      simp (disch := omega) only [f_X8_unlikeTimes_L4, HO.2.1, nLt, Nat.lt_succ_self, if_true]) (w + 1) N 0 0 (by omega) (by omega) rfl
  exact e
