/-! Values, and when they settle. -/
theorem fold_ge {α : Type} (L : Nat → α) (F : Nat → α → α → α) {t : Nat} (h : 27 ≤ t) : fold L F t = F (tK t) (fold L F (tA t)) (fold L F (tB t)) := by
  have ha := tA_lt h
  have hb := tB_lt h
  unfold fold
  rw [foldF, if_neg (by omega), foldF_fuel L F t (tA t + 1) (tA t) ha (by omega), foldF_fuel L F t (tB t + 1) (tB t) hb (by omega)]
/-- all inputs of a term are below a width -/
def LV (w : Nat) : Nat → Prop := fold (fun t => 24 ≤ t ∨ t % 12 < w) (fun _ x y => x ∧ y)
theorem LV_sym : ∀ (k : Nat) (x y : Prop), (x ∧ y) = (y ∧ x) := fun _ x y => propext And.comm
theorem LV_leaf {w t : Nat} (h : t < 27) : LV w t ↔ (24 ≤ t ∨ t % 12 < w) := by unfold LV; rw [fold_leaf h]
theorem LV_mk {w k : Nat} (hk : k < 4) (a b : Nat) : LV w (mkT k a b) ↔ LV w a ∧ LV w b := by
  unfold LV; rw [fold_mk (F := fun _ x y => x ∧ y) LV_sym hk]
theorem LV_ge {w t : Nat} (h : 27 ≤ t) : LV w t ↔ LV w (tA t) ∧ LV w (tB t) := by
  unfold LV; rw [fold_ge (F := fun _ x y => x ∧ y) _ h]
theorem fold_cg {α : Type} {L L' : Nat → α} {F : Nat → α → α → α} {w : Nat} (hL : ∀ s, s < 27 → (24 ≤ s ∨ s % 12 < w) → L s = L' s) : ∀ t, LV w t → fold L F t = fold L' F t := by
  intro t
  induction t using Nat.strongRecOn with
  | _ t ih =>
    intro h
    by_cases ht : t < 27
    · rw [fold_leaf ht, fold_leaf ht, hL t ht ((LV_leaf ht).mp h)]
    · obtain ⟨h1, h2⟩ := (LV_ge (show 27 ≤ t by omega)).mp h
      rw [fold_ge L F (show 27 ≤ t by omega), fold_ge L' F (show 27 ≤ t by omega), ih _ (tA_lt (by omega)) h1, ih _ (tB_lt (by omega)) h2]
section LVT
variable {w : Nat}
theorem LV_c {t : Nat} (h : 24 ≤ t) (h2 : t < 27) : LV w t := (LV_leaf h2).mpr (Or.inl h)
theorem LV_not {x : Nat} (h : LV w x) : LV w (tNot x) := by
  unfold tNot
  split
  · exact LV_c (by omega) (by omega)
  · split
    · exact LV_c (by omega) (by omega)
    · split
      · next hh => exact ((LV_ge hh.1).mp h).1
      · exact (LV_mk (by omega) _ _).mpr ⟨h, h⟩
theorem LV_and {x y : Nat} (h : LV w x) (h2 : LV w y) : LV w (tAnd x y) := by
  unfold tAnd
  split
  · exact LV_c (by omega) (by omega)
  · split
    · exact h2
    · split
      · exact h
      · exact (LV_mk (by omega) _ _).mpr ⟨h, h2⟩
theorem LV_or {x y : Nat} (h : LV w x) (h2 : LV w y) : LV w (tOr x y) := by
  unfold tOr
  split
  · exact LV_c (by omega) (by omega)
  · split
    · exact h2
    · split
      · exact h
      · exact (LV_mk (by omega) _ _).mpr ⟨h, h2⟩
theorem LV_xor {x y : Nat} (h : LV w x) (h2 : LV w y) : LV w (tXor x y) := by
  unfold tXor
  split
  · exact LV_c (by omega) (by omega)
  · split
    · exact h2
    · split
      · exact h
      · split
        · exact LV_not h2
        · split
          · exact LV_not h
          · exact (LV_mk (by omega) _ _).mpr ⟨h, h2⟩
theorem LV_P {i : Nat} (hi : i < w) (hw : w ≤ 12) : LV w (tP i) := LV_xor ((LV_leaf (by omega)).mpr (Or.inr (by omega))) ((LV_leaf (by omega)).mpr (Or.inr (by omega)))
theorem LV_G {i : Nat} (hi : i < w) (hw : w ≤ 12) : LV w (tG i) := LV_and ((LV_leaf (by omega)).mpr (Or.inr (by omega))) ((LV_leaf (by omega)).mpr (Or.inr (by omega)))
theorem LV_rcar (hw : w ≤ 12) {lo c : Nat} (hc : LV w c) : ∀ k, lo + k ≤ w → LV w (rcar lo c k)
  | 0, _ => hc
  | k + 1, h => LV_or (LV_G (by omega) hw) (LV_and (LV_P (by omega) hw) (LV_rcar hw hc k (by omega)))
theorem LV_rsum (hw : w ≤ 12) {lo c i : Nat} (hc : LV w c) (h1 : lo ≤ i) (h2 : i < w) : LV w (rsum lo c i) := LV_xor (LV_P h2 hw) (LV_rcar hw hc _ (by omega))
theorem LV_all (hw : w ≤ 12) {lo : Nat} : ∀ k, lo + k < w → LV w (tAll lo k)
  | 0, h => LV_P (by omega) hw
  | k + 1, h => LV_and (LV_all hw k (by omega)) (LV_P h hw)
theorem LV_spP (hw : w ≤ 12) : ∀ n i j, i < w → j < w → LV w (spP n i j)
  | 0, i, j, hi, hj => LV_P hi hw
  | n + 1, i, j, hi, hj => by
    unfold spP
    split
    · exact LV_P hi hw
    · exact LV_and (LV_spP hw n _ _ hi (by omega)) (LV_spP hw n _ _ (by omega) hj)
theorem LV_spG (hw : w ≤ 12) : ∀ n i j, i < w → j < w → LV w (spG n i j)
  | 0, i, j, hi, hj => LV_G hi hw
  | n + 1, i, j, hi, hj => by
    unfold spG
    split
    · exact LV_G hi hw
    · exact LV_or (LV_spG hw n _ _ (by omega) hj) (LV_and (LV_spP hw n _ _ (by omega) hj) (LV_spG hw n _ _ hi (by omega)))
theorem LV_lcar (hw : w ≤ 12) {lo c : Nat} (hc : LV w c) : ∀ k, lo + k ≤ w → LV w (lcar lo c k)
  | 0, _ => hc
  | k + 1, h => LV_or (LV_spG hw _ _ _ (by omega) (by omega)) (LV_and (LV_spP hw _ _ _ (by omega) (by omega)) hc)
theorem LV_bsum (hw : w ≤ 12) {kind lo c i : Nat} (hc : LV w c) (h1 : lo ≤ i) (h2 : i < w) : LV w (bsum kind lo c i) := by
  unfold bsum
  split
  · exact LV_or (LV_and (LV_rsum hw (LV_c (by omega) (by omega)) h1 h2) hc) (LV_and (LV_rsum hw (LV_c (by omega) (by omega)) h1 h2) (LV_not hc))
  · split
    · exact LV_xor (LV_P h2 hw) (LV_lcar hw hc _ (by omega))
    · exact LV_rsum hw hc h1 h2
theorem LV_bcar (hw : w ≤ 12) {kind lo b c : Nat} (hc : LV w c) (h1 : lo + b ≤ w) (hb : 1 ≤ b) : LV w (bcar kind lo b c) := by
  unfold bcar
  split
  · exact LV_rcar hw hc _ h1
  · split
    · exact LV_or (LV_rcar hw hc _ h1) (LV_and (LV_all hw _ (by omega)) hc)
    · split
      · exact LV_or (LV_rcar hw (LV_c (by omega) (by omega)) _ h1) (LV_and (LV_rcar hw (LV_c (by omega) (by omega)) _ h1) hc)
      · exact LV_lcar hw hc _ h1
theorem LV_foldl (hw : w ≤ 12) : ∀ (bs : Blk) (st : NSt), (∀ b, b ∈ bs → 1 ≤ b.2) → st.1 + wid bs ≤ w → LV w st.2.1 → (∀ i, i < st.1 → LV w (st.2.2 i)) → LV w (bs.foldl nstep st).2.1 ∧ ∀ i, i < (bs.foldl nstep st).1 → LV w ((bs.foldl nstep st).2.2 i)
  | [], st, _, _, h1, h2 => ⟨h1, h2⟩
  | b :: bs, st, hb, hs, h1, h2 => by
    have hwid : wid (b :: bs) = b.2 + wid bs := by unfold wid; rw [List.map_cons, List.sum_cons]
    have hb1 := hb b List.mem_cons_self
    refine LV_foldl hw bs (nstep st b) (fun x hx => hb x (List.mem_cons_of_mem _ hx)) (by show st.1 + b.2 + _ ≤ _; omega) (LV_bcar hw h1 (by omega) hb1) (fun i hi => ?_)
    have hi2 : i < st.1 + b.2 := hi
    show LV w (if st.1 ≤ i ∧ i < st.1 + b.2 then bsum b.1 st.1 st.2.1 i else st.2.2 i)
    by_cases hc : st.1 ≤ i
    · rw [if_pos ⟨hc, hi2⟩]; exact LV_bsum hw h1 hc (by omega)
    · rw [if_neg (fun z => hc z.1)]; exact h2 i (by omega)
theorem LV_nets {bs : Blk} (V : VB bs) : ∀ i, i ≤ wid bs → LV (wid bs) (outT (nets bs) i) := by
  obtain ⟨h1, h2⟩ := LV_foldl (w := wid bs) V.2.2 bs nst0 (fun b hb => (V.2.1 b hb).2.1) (by show 0 + _ ≤ _; omega) (LV_c (by decide) (by decide)) (fun i hi => absurd hi (Nat.not_lt_zero i))
  intro i hi
  unfold outT
  by_cases h : i < (nets bs).1
  · rw [if_pos h]; exact h2 i h
  · rw [if_neg h]; exact h1
end LVT
def STl (d ar lv : Nat → Nat) : Nat → Nat × Nat := fold (fun t => (lv t, tmL ar t)) (stF d)
theorem va_sym : ∀ k x y, vaF k x y = vaF k y x := fun k x y => by
  unfold vaF; rw [Nat.min_comm x y, Nat.mul_comm x y, Nat.max_comm x y, Nat.add_comm x y]
theorem st_sym (d : Nat → Nat) : ∀ k x y, stF d k x y = stF d k y x := fun k x y => by
  unfold stF
  rw [va_sym k x.1 y.1, Nat.mul_comm y.1 x.1, Nat.max_comm y.1 x.1, Nat.min_comm y.2 x.2, Nat.max_comm y.2 x.2]
  congr 2
  by_cases h1 : k = 1 ∧ x.1 * y.1 = 0
  · rw [if_pos h1, if_pos h1]
    rcases Nat.mul_eq_zero.mp h1.2 with hx | hy
    · by_cases hy : y.1 = 0 <;> simp [hx, hy]
    · by_cases hx : x.1 = 0 <;> simp [hx, hy]
  · rw [if_neg h1, if_neg h1]
    by_cases h2 : k = 2 ∧ max x.1 y.1 = 1
    · rw [if_pos h2, if_pos h2]
      by_cases hx : x.1 = 1 <;> by_cases hy : y.1 = 1 <;> simp_all <;> omega
    · rw [if_neg h2, if_neg h2]
theorem vaF_le {k x y : Nat} (hx : x ≤ 1) (hy : y ≤ 1) : vaF k x y ≤ 1 := by
  unfold vaF
  split
  · omega
  · split
    · have : x = 0 ∨ x = 1 := by omega
      rcases this with rfl | rfl <;> omega
    · split <;> omega
section STTL
variable {lf : Nat → Nat} {n : Nat} {kd l r den : Nat → Nat} {d ar lv : Nat → Nat}
theorem st_leaf (h : NT lf n kd l r den) (hlf : LF lf) {k : Nat} (hk : k < 27) : STl d ar lv (den k) = (lv (lf k), tmL ar (lf k)) := by
  rw [h.2.1 k hk]; exact fold_leaf (hlf.1 k hk)
theorem st_gate (h : NT lf n kd l r den) {k : Nat} (hk : 27 ≤ k) (hn : k < n) : STl d ar lv (den k) = stF d (kd k) (STl d ar lv (den (l k))) (STl d ar lv (den (r k))) := by
  obtain ⟨a1, a2, a3, a4⟩ := h.2.2.1 k hk hn
  have := fold_mk (L := fun t => ((lv t, tmL ar t) : Nat × Nat)) (st_sym d) a1 (den (l k)) (den (r k))
  rw [← a4] at this
  exact this
theorem st_bd (h : NT lf n kd l r den) (hlf : LF lf) (hb : dab d ar) (hl : ∀ t, t < 27 → lv t ≤ 1) : ∀ k, k < n → (STl d ar lv (den k)).1 ≤ 1 ∧ (STl d ar lv (den k)).2 ≤ 99 + 9 * k := by
  intro k
  induction k using Nat.strongRecOn with
  | _ k ih =>
    intro hk
    by_cases hk2 : k < 27
    · rw [st_leaf h hlf hk2]
      have := tmL_le hb (lf k)
      exact ⟨hl _ (hlf.1 k hk2), by show tmL ar (lf k) ≤ _; omega⟩
    · obtain ⟨a1, a2, a3, a4⟩ := h.2.2.1 k (by omega) hk
      obtain ⟨b1, b2⟩ := ih _ a2 (by omega)
      obtain ⟨b3, b4⟩ := ih _ a3 (by omega)
      rw [st_gate h (by omega) hk]
      have h3 := hb.1 _ a1
      refine ⟨vaF_le b1 b3, ?_⟩
      unfold stF
      dsimp only
      split
      · split
        · omega
        · split <;> omega
      · split
        · split
          · omega
          · split <;> omega
        · omega
end STTL
theorem nI_a2 {x y : Nat} (hx : x ≤ 1) (hy : y ≤ 1) : nI x &&& nI y = nI (x * y) ∧ nI x ||| nI y = nI (max x y) ∧ nI x ^^^ nI y = nI ((x + y) % 2) ∧ (1 : Int32) - nI x = nI (1 - x) := by
  have h1 : x = 0 ∨ x = 1 := by omega
  have h2 : y = 0 ∨ y = 1 := by omega
  rcases h1 with rfl | rfl <;> rcases h2 with rfl | rfl <;> decide +kernel
theorem value_ok (N : Nat) {σ : Wd} {n m : Nat} {kd l r den W : Nat → Nat} (H : GR σ n kd l r den) (hW : RW σ 33 m W) (h1 : ∀ k, k < m → W k ≤ 1) {k : Nat} (hk : 27 ≤ k) (hn : k < n) (hm : k ≤ m) : f_X8_valueOf N (nI k) σ = some (nI (vaF (kd k) (W (l k)) (W (r k))), σ) := by
  obtain ⟨hT, hnn, h45, h18, h19, h20, heq⟩ := H
  obtain ⟨a1, a2, a3, -⟩ := hT.2.2.1 k hk hn
  obtain ⟨w1, w2⟩ := hW (l k) (by omega)
  obtain ⟨w3, w4⟩ := hW (r k) (by omega)
  obtain ⟨e1, e2, e3, e4⟩ := nI_a2 (h1 (l k) (by omega)) (h1 (r k) (by omega))
  simp (disch := omega) only [f_X8_valueOf, xld_n, obind, h18 k hk hn, h19 k hk hn, h20 k hk hn, w1, w3, e1, e2, e3, e4]
  have hc : kd k = 0 ∨ kd k = 1 ∨ kd k = 2 ∨ kd k = 3 := by omega
  rcases hc with hc | hc | hc | hc
  · rw [hc, heq k hk hn hc]
    unfold vaF
    rw [Nat.min_self]; rfl
  · rw [hc]; rfl
  · rw [hc]; rfl
  · rw [hc]; rfl
theorem ruled_ok (N : Nat) {k v : Nat} (hk : k < 4) (hv : v ≤ 1) (σ : Wd) : f_X8_isRuled N (nI k) (nI v) σ = some (if k = 1 ∧ v = 0 ∨ k = 2 ∧ v = 1 then 1 else 0, σ) := by
  have hc : k = 0 ∨ k = 1 ∨ k = 2 ∨ k = 3 := by omega
  have hd : v = 0 ∨ v = 1 := by omega
  rcases hc with rfl | rfl | rfl | rfl <;> rcases hd with rfl | rfl <;> rfl
theorem ruling_ok (N : Nat) {σ : Wd} {n m : Nat} {kd l r den W T : Nat → Nat} {v : Nat} (H : GR σ n kd l r den) (hW : RW σ 33 m W) (hT2 : RW σ 32 m T) (hv : v ≤ 1) {k : Nat} (hk : 27 ≤ k) (hn : k < n) (hm : k ≤ m) (h33 : σ.1 33 k = nI v) :
    f_X8_rulingPart N (nI k) σ = some (nI (if W (l k) = v ∧ W (r k) = v then min (T (l k)) (T (r k)) else if W (l k) = v then T (l k) else T (r k)), σ) := by
  obtain ⟨hT, hnn, h45, h18, h19, h20, heq⟩ := H
  obtain ⟨a1, a2, a3, -⟩ := hT.2.2.1 k hk hn
  obtain ⟨w1, w2⟩ := hW (l k) (by omega)
  obtain ⟨w3, w4⟩ := hW (r k) (by omega)
  obtain ⟨t1, t2⟩ := hT2 (l k) (by omega)
  obtain ⟨t3, t4⟩ := hT2 (r k) (by omega)
  by_cases c1 : W (l k) = v
  · by_cases c2 : W (r k) = v
    · rw [if_pos ⟨c1, c2⟩]
      simp (disch := omega) only [f_X8_rulingPart, xld_n, obind, h19 k hk hn, h20 k hk hn, w1, w3, h33, c1, c2, if_true, t1, t3, min_ok]
    · rw [if_neg (fun z => c2 z.2), if_pos c1]
      simp (disch := omega) only [f_X8_rulingPart, xld_n, obind, h19 k hk hn, h20 k hk hn, w1, w3, h33, c1, nEq, c2, if_true, if_false, t1]
  · rw [if_neg (fun z => c1 z.1), if_neg c1]
    simp (disch := omega) only [f_X8_rulingPart, xld_n, obind, h19 k hk hn, h20 k hk hn, w1, w3, h33, c1, nEq, if_false, t3]
/-- the leaves' values behind their loop -/
theorem bit_1 {a i : Nat} (ha : a < 2147483648) (hi : i < 32) : (nI a >>> (nI i &&& 31)) &&& (1 : Int32) = nI (a / 2 ^ i % 2) := by
  rw [nI_shr ha hi, nI_and _ 1 (by decide) (by decide)]
def lvv (old : Nat → Nat) (a b c i t : Nat) : Nat := if 24 ≤ t ∨ t % 12 < i then vaL a b c t else old t
theorem lvv_put {σ : Wd} {a b c i : Nat} {old : Nat → Nat} (hi : i < 12) (hP : ∀ k, k < 27 → σ.1 33 k = nI (lvv old a b c i (lfC k))) : ∀ k, k < 27 → (sF (sF σ 33 (2 + i) (nI (a / 2 ^ i % 2))) 33 (14 + i) (nI (b / 2 ^ i % 2))).1 33 k = nI (lvv old a b c (i + 1) (lfC k)) := by
  intro k hk
  by_cases h1 : k = 14 + i
  · subst h1
    have hl : lfC (14 + i) = 12 + i := by unfold lfC; rw [if_neg (by omega), if_neg (by omega)]; omega
    rw [sF_eq, hl]
    unfold lvv vaL
    rw [if_pos (Or.inr (by omega)), if_neg (by omega), if_pos (by omega), show 12 + i - 12 = i by omega]
  · rw [sF_nb h1]
    by_cases h2 : k = 2 + i
    · subst h2
      have hl : lfC (2 + i) = i := by unfold lfC; rw [if_neg (by omega), if_neg (by omega)]; omega
      rw [sF_eq, hl]
      unfold lvv vaL
      rw [if_pos (Or.inr (by omega)), if_pos (by omega)]
    · rw [sF_nb h2, hP k hk]
      have h3 : (24 ≤ lfC k ∨ lfC k % 12 < i) ↔ (24 ≤ lfC k ∨ lfC k % 12 < i + 1) := by
        unfold lfC
        split
        · omega
        · split
          · omega
          · omega
      unfold lvv
      by_cases h4 : 24 ≤ lfC k ∨ lfC k % 12 < i
      · rw [if_pos h4, if_pos (h3.mp h4)]
      · rw [if_neg h4, if_neg (fun z => h4 (h3.mpr z))]
theorem vaL_le {a b c : Nat} (hc : c ≤ 1) (t : Nat) : vaL a b c t ≤ 1 := by
  unfold vaL
  split
  · omega
  · split
    · omega
    · split
      · exact hc
      · split <;> omega
theorem RW.mo {σ : Wd} {K n m : Nat} {W : Nat → Nat} (H : RW σ K n W) (h : m ≤ n) : RW σ K m W := fun k hk => H k (by omega)
theorem RW.ne {σ : Wd} {K n k i : Nat} {x : Int32} {W : Nat → Nat} (H : RW σ K n W) (h : K ≠ k) : RW (sF σ k i x) K n W := fun j hj => by
  rw [sF_ne h]; exact H j hj
theorem settle_gates (N : Nat) (hN : 512 < N) {σ τ1 : Wd} {n : Nat} {kd l r den d ar lv : Nat → Nat} (H : GR σ n kd l r den) (hD : DA σ d ar) (hb : dab d ar) (hl : ∀ t, t < 27 → lv t ≤ 1) (F1 : Fr [32, 33] σ τ1) (RV : RW τ1 33 27 (fun k => lv (lfC k))) (RS : RW τ1 32 27 (fun k => tmL ar (lfC k))) :
    ∃ τ, (27 ≤ n ∧ Fr [32, 33] σ τ ∧ RW τ 33 n (fun k => (STl d ar lv (den k)).1) ∧ RW τ 32 n (fun k => (STl d ar lv (den k)).2)) ∧ f_X8_settle_L80 N (f_X8_settle_J170 N) N 27 τ1 = f_X8_settle_J170 N τ := by
  obtain ⟨hT, hn, -⟩ := id H
  have h27 := hT.1
  have hst := st_bd hT lfC_ok hb hl (d := d) (ar := ar)
  refine lp_up (g := fun fu i σ => f_X8_settle_L80 N (f_X8_settle_J170 N) fu (nI i) σ) (E := f_X8_settle_J170 N) (P := fun i τ => 27 ≤ i ∧ Fr [32, 33] σ τ ∧ RW τ 33 i (fun k => (STl d ar lv (den k)).1) ∧ RW τ 32 i (fun k => (STl d ar lv (den k)).2)) (m := n) (fun fu i τ hi hP => ?_) (fun fu τ hP => ?_) (n - 27) N 27 τ1 (by omega) (by omega) ⟨by omega, F1, fun k hk => ?_, fun k hk => ?_⟩
  · obtain ⟨hi27, F, RV, RS⟩ := hP
    have hle : ¬ n ≤ i := by omega
    have H2 := H.fr F (by decide) (by decide) (by decide) (by decide)
    obtain ⟨a1, a2, a3, -⟩ := hT.2.2.1 i hi27 hi
    obtain ⟨s1, s2⟩ := hst i hi
    have hval := value_ok N H2 RV (fun k hk => (hst k (by omega)).1) hi27 hi (Nat.le_refl i)
    have hg := st_gate hT (d := d) (ar := ar) (lv := lv) hi27 hi
    have hv : vaF (kd i) (STl d ar lv (den (l i))).1 (STl d ar lv (den (r i))).1 = (STl d ar lv (den i)).1 := by rw [hg]; rfl
    rw [hv] at hval
    have F3 : Fr [32, 33] τ (sF τ 33 i (nI (STl d ar lv (den i)).1)) := (Fr.rf _ τ).F (by decide)
    have H3 := H2.fr F3 (by decide) (by decide) (by decide) (by decide)
    have RV3 := RV.put (show (STl d ar lv (den i)).1 < 1000000 by omega)
    have RS3 : RW (sF τ 33 i (nI (STl d ar lv (den i)).1)) 32 i (fun k => (STl d ar lv (den k)).2) := RS.ne (by decide)
    have RS4 := RS3.put (show (STl d ar lv (den i)).2 < 1000000 by omega)
    have D3 := hD.fr (F.tr F3) (by decide) (by decide)
    have e33 : (sF τ 33 i (nI (STl d ar lv (den i)).1)).1 33 i = nI (STl d ar lv (den i)).1 := sF_eq
    refine ⟨sF (sF τ 33 i (nI (STl d ar lv (den i)).1)) 32 i (nI (STl d ar lv (den i)).2), ⟨by omega, (F.tr F3).F (by decide), RV3.ne (by decide), RS4⟩, ?_⟩
    have hsum : ∀ q, (STl d ar lv (den i)).2 = d (kd i) + q → f_X8_settle_J140 N (f_X8_settle_L80 N (f_X8_settle_J170 N) fu) (f_X8_settle_J170 N) (nI i) (nI q) (sF τ 33 i (nI (STl d ar lv (den i)).1)) = f_X8_settle_L80 N (f_X8_settle_J170 N) fu (nI (i + 1)) (sF (sF τ 33 i (nI (STl d ar lv (den i)).1)) 32 i (nI (STl d ar lv (den i)).2)) := fun q hq => by
      simp (disch := omega) only [f_X8_settle_J140, xld_n, obind, H3.2.2.2.1 i hi27 hi, D3.1 _ a1, xst_n, nI_add, nI_1]
      rw [Nat.add_comm q, ← hq]
    by_cases hr : kd i = 1 ∧ (STl d ar lv (den i)).1 = 0 ∨ kd i = 2 ∧ (STl d ar lv (den i)).1 = 1
    · have hru := ruling_ok N H3 (RV3.mo (Nat.le_succ i)) RS3 s1 hi27 hi (Nat.le_refl i) e33
      simp (disch := omega) only [f_X8_settle_L80, H2.2.2.1, nLe, hle, if_false, hval, obind, xst_n, xld_n, H3.2.2.2.1 i hi27 hi, e33, ruled_ok, hr, if_true, show ¬ (1 : Int32) = 0 by decide, hru]
      refine hsum _ ?_
      rw [← hv] at hr ⊢
      have h2 : (STl d ar lv (den i)).2 = (stF d (kd i) (STl d ar lv (den (l i))) (STl d ar lv (den (r i)))).2 := by rw [hg]
      rw [h2]
      unfold stF
      dsimp only
      rcases hr with ⟨k1, v1⟩ | ⟨k1, v1⟩
      · rw [k1] at v1 ⊢
        have v2 : (STl d ar lv (den (l i))).1 * (STl d ar lv (den (r i))).1 = 0 := v1
        rw [v1, if_pos ⟨rfl, v2⟩]
      · rw [k1] at v1 ⊢
        have v2 : max (STl d ar lv (den (l i))).1 (STl d ar lv (den (r i))).1 = 1 := v1
        rw [v1, if_neg (fun z => by omega), if_pos ⟨rfl, v2⟩]
    · have hla := later_ok N H3 RS3 hi27 hi (Nat.le_refl i)
      simp (disch := omega) only [f_X8_settle_L80, H2.2.2.1, nLe, hle, if_false, hval, obind, xst_n, xld_n, H3.2.2.2.1 i hi27 hi, e33, ruled_ok, hr, if_true, hla]
      refine hsum _ ?_
      rw [← hv] at hr
      have h2 : (STl d ar lv (den i)).2 = (stF d (kd i) (STl d ar lv (den (l i))) (STl d ar lv (den (r i)))).2 := by rw [hg]
      rw [h2]
      unfold stF
      dsimp only
      rw [if_neg (fun z => hr (Or.inl ⟨z.1, by rw [z.1]; exact z.2⟩)), if_neg (fun z => hr (Or.inr ⟨z.1, by rw [z.1]; exact z.2⟩))]
  · have h45 := (H.fr hP.2.1 (by decide) (by decide) (by decide) (by decide)).2.2.1
    simp (disch := omega) only [f_X8_settle_L80, h45, nLe, Nat.le_refl, if_true]
  · dsimp only; rw [st_leaf hT lfC_ok hk]; exact RV k hk
  · dsimp only; rw [st_leaf hT lfC_ok hk]; exact RS k hk
theorem settle_ok (N : Nat) (hN : 512 < N) {σ : Wd} {n w : Nat} {kd l r den d ar : Nat → Nat} (H : GR σ n kd l r den) (hw : σ.1 4 6 = nI w) (hw12 : w ≤ 12) (hD : DA σ d ar) (hb : dab d ar) (hV : ∀ k, k < 27 → σ.1 33 k = 0 ∨ σ.1 33 k = 1) {a b c : Nat} (ha : a < 2147483648) (hb2 : b < 2147483648) (hc : c ≤ 1) :
    ∃ τ lv, f_X8_settle N (nI a) (nI b) (nI c) σ = some τ ∧ Fr [32, 33] σ τ ∧ (∀ t, t < 27 → (24 ≤ t ∨ t % 12 < w) → lv t = vaL a b c t) ∧ (∀ t, t < 27 → lv t ≤ 1) ∧ RW τ 33 n (fun k => (STl d ar lv (den k)).1) ∧ RW τ 32 n (fun k => (STl d ar lv (den k)).2) := by
  obtain ⟨hT, hn, h45, -⟩ := id H
  have h27 := hT.1
  obtain ⟨old, ho, -⟩ := pickN (w := 27) 0 (P := fun t x => x ≤ 1 ∧ (t < 24 → σ.1 33 (t + 2) = nI x)) (fun t ht => by
    by_cases h24 : t < 24
    · rcases hV (t + 2) (by omega) with q | q
      · exact ⟨0, by omega, fun _ => q⟩
      · exact ⟨1, by omega, fun _ => q⟩
    · exact ⟨0, by omega, fun q => absurd q h24⟩)
  have hlv : ∀ i t, t < 27 → lvv old a b c i t ≤ 1 := fun i t ht => by
    unfold lvv
    split
    · exact vaL_le hc t
    · exact (ho t ht).1
  unfold f_X8_settle
  obtain ⟨τ0, e0, F0, R0⟩ := arrive_ok N hN hD hb
  rw [e0, obind, xst_l (i := 0) (by omega) (by omega), obind, xst_l (i := 1) (by omega) (by omega), obind, xst_l (i := 26) (by omega) (by omega), obind]
  have hinit : ∀ k, k < 27 → (sF (sF (sF τ0 33 0 0) 33 1 1) 33 26 (nI c)).1 33 k = nI (lvv old a b c 0 (lfC k)) := fun k hk => by
    by_cases k26 : k = 26
    · subst k26; rw [sF_eq]; rfl
    · rw [sF_nb k26]
      by_cases k1 : k = 1
      · subst k1; rw [sF_eq]; rfl
      · rw [sF_nb k1]
        by_cases k0 : k = 0
        · subst k0; rw [sF_eq]; rfl
        · rw [sF_nb k0, F0.i (by decide)]
          have hl : lfC k = k - 2 := by unfold lfC; rw [if_neg k0, if_neg k1]
          have := (ho (k - 2) (by omega)).2 (by omega)
          rw [show k - 2 + 2 = k by omega] at this
          rw [this, hl]
          unfold lvv
          rw [if_neg (by omega)]
  have Fi : Fr [32, 33] σ (sF (sF (sF τ0 33 0 0) 33 1 1) 33 26 (nI c)) := (((F0.mo (by decide)).F (by decide)).F (by decide)).F (by decide)
  have Ri : RW (sF (sF (sF τ0 33 0 0) 33 1 1) 33 26 (nI c)) 32 27 (fun k => tmL ar (lfC k)) := fun k hk => by
    rw [sF_ne (by decide), sF_ne (by decide), sF_ne (by decide)]; exact R0 k hk
  obtain ⟨τ1, ⟨F1, R1, P1⟩, e1⟩ := lp_up (g := fun fu i σ => f_X8_settle_L30 N (f_X8_settle_J76 N) fu (nI a) (nI b) (nI i) σ) (E := f_X8_settle_J76 N) (P := fun i τ => Fr [32, 33] σ τ ∧ RW τ 32 27 (fun k => tmL ar (lfC k)) ∧ ∀ k, k < 27 → τ.1 33 k = nI (lvv old a b c i (lfC k))) (m := w) (fun fu i τ hi hP => by
      obtain ⟨F, R, P⟩ := hP
      have hle : ¬ w ≤ i := by omega
      have hw2 := (F.i (a := 4) (by decide) 6).trans hw
      refine ⟨sF (sF τ 33 (2 + i) (nI (a / 2 ^ i % 2))) 33 (14 + i) (nI (b / 2 ^ i % 2)), ⟨(F.F (by decide)).F (by decide), fun k hk => ?_, lvv_put (by omega) P⟩, ?_⟩
      · rw [sF_ne (by decide), sF_ne (by decide)]; exact R k hk
      · simp (disch := omega) only [f_X8_settle_L30, hw2, nLe, hle, if_false, bit_1, L2, L14, nI_add, xst_n, obind, nI_1]) (fun fu τ hP => by
      have hw2 := (hP.1.i (a := 4) (by decide) 6).trans hw
      simp (disch := omega) only [f_X8_settle_L30, hw2, nLe, Nat.le_refl, if_true]) w N 0 _ (by omega) (by omega) ⟨Fi, Ri, hinit⟩
  have e1' : f_X8_settle_L30 N (f_X8_settle_J76 N) N (nI a) (nI b) 0 (sF (sF (sF τ0 33 0 0) 33 1 1) 33 26 (nI c)) = f_X8_settle_J76 N τ1 := e1
  rw [e1']
  unfold f_X8_settle_J76
  have hV2 : ∀ t, t < 27 → lvv old a b c w t ≤ 1 := hlv w
  obtain ⟨τ, ⟨-, F, RV, RS⟩, e⟩ := settle_gates N hN H hD hb hV2 F1 (fun k hk => ⟨P1 k hk, by have := hV2 (lfC k) (lfC_ok.1 k hk); dsimp only; omega⟩) R1
  refine ⟨τ, lvv old a b c w, e, F, fun t ht h => ?_, hV2, RV, RS⟩
  unfold lvv
  rw [if_pos h]
def obits (f : Nat → Nat) : Nat → Nat
  | 0 => 0
  | i + 1 => obits f i + f i * 2 ^ i
theorem obits_lt {f : Nat → Nat} : ∀ i, (∀ j, j < i → f j ≤ 1) → obits f i < 2 ^ i
  | 0, _ => by simp [obits]
  | i + 1, h => by
    have h1 := obits_lt i (fun j hj => h j (by omega))
    have h2 := h i (by omega)
    have h3 : f i = 0 ∨ f i = 1 := by omega
    unfold obits
    rw [Nat.pow_succ]
    rcases h3 with h3 | h3 <;> rw [h3] <;> omega
theorem obits_cg {f g : Nat → Nat} : ∀ i, (∀ j, j < i → f j = g j) → obits f i = obits g i
  | 0, _ => rfl
  | i + 1, h => by unfold obits; rw [obits_cg i (fun j hj => h j (by omega)), h i (by omega)]
theorem bits_ok (N : Nat) (hN : 512 < N) {σ : Wd} {n w : Nat} {den oz W : Nat → Nat} (hn : n ≤ 512) (HO : OG σ n den w oz) (hW : RW σ 33 n W) (h1 : ∀ k, k < n → W k ≤ 1) : f_X8_outcomeBits N σ = some (nI (obits (fun i => W (oz i)) (w + 1)), σ) := by
  unfold f_X8_outcomeBits
  have hw := HO.1
  obtain ⟨c, rfl, e⟩ := lp_up (g := fun fu i c => f_X8_outcomeBits_L4 N (f_X8_outcomeBits_J33 N) fu c (nI i) σ) (E := fun c => f_X8_outcomeBits_J33 N c σ) (P := fun i c => c = nI (obits (fun i => W (oz i)) i)) (m := w + 1) (fun fu i c hi hP => by
      subst hP
      have hle : ¬ w < i := by omega
      have hz := HO.2.2.2.2 i (by omega)
      obtain ⟨w1, w2⟩ := hW (oz i) hz
      have h2 := h1 (oz i) hz
      have hlt := obits_lt (f := fun i => W (oz i)) i (fun j hj => h1 (oz j) (HO.2.2.2.2 j (by omega)))
      have hp := pow_in (show i < 32 by omega)
      have hp2 : W (oz i) * 2 ^ i < 2 ^ 32 := Nat.lt_of_le_of_lt (Nat.mul_le_mul_right _ h2) (by omega)
      have hor : obits (fun i => W (oz i)) i ||| W (oz i) * 2 ^ i = obits (fun i => W (oz i)) (i + 1) := or_add hlt
      refine ⟨nI (obits (fun i => W (oz i)) (i + 1)), rfl, ?_⟩
      have hsh := nI_shl (show i < 32 by omega) hp2
      have hoo : nI (obits (fun i => W (oz i)) i) ||| nI (W (oz i) * 2 ^ i) = nI (obits (fun i => W (oz i)) (i + 1)) := by rw [nI_or (by omega) hp2, hor]
      simp (disch := omega) only [f_X8_outcomeBits_L4, HO.2.1, nLt, hle, if_false, og_ok N HO (show i ≤ w by omega), obind, xld_n, w1, hsh, hoo, nI_1]) (fun fu c hP => by
      simp (disch := omega) only [f_X8_outcomeBits_L4, HO.2.1, nLt, Nat.lt_succ_self, if_true]) (w + 1) N 0 0 (by omega) (by omega) rfl
  exact e
