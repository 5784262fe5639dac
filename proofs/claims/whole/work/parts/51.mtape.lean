section
/-! The reference's tape, names, rows that are alike. -/
theorem in_ok (N : Nat) (x lo hi : Int32) {lo' hi' : Int64} (h1 : lo.toInt64 = lo') (h2 : hi.toInt64 = hi') (σ : Wd) : f_X10_in N x.toInt64 lo' hi' σ = some (if lo ≤ x ∧ x ≤ hi then 1 else 0, σ) := by
  subst h1; subst h2
  unfold f_X10_in
  by_cases a : x < lo
  · rw [if_pos ((lg_cmp_lt _ _).mpr ((fa_wide_lt _ _).mpr a)), if_neg (fun z => nGe a z.1)]
  · rw [if_neg (fun z => a ((fa_wide_lt _ _).mp ((lg_cmp_lt _ _).mp z)))]
    by_cases b : hi < x
    · rw [if_pos ((lg_cmp_gt _ _).mpr ((fa_wide_lt _ _).mpr b)), if_neg (fun z => nGe b z.2)]
    · rw [if_neg (fun z => b ((fa_wide_lt _ _).mp ((lg_cmp_gt _ _).mp z))), if_pos ⟨gLe a, gLe b⟩]
theorem in_y (N : Nat) {x lo hi : Int32} {lo' hi' : Int64} (h1 : lo.toInt64 = lo') (h2 : hi.toInt64 = hi') (h : lo ≤ x ∧ x ≤ hi) (σ : Wd) : f_X10_in N x.toInt64 lo' hi' σ = some (1, σ) := by rw [in_ok N x lo hi h1 h2, if_pos h]
theorem in_n (N : Nat) {x lo hi : Int32} {lo' hi' : Int64} (h1 : lo.toInt64 = lo') (h2 : hi.toInt64 = hi') (h : ¬ (lo ≤ x ∧ x ≤ hi)) (σ : Wd) : f_X10_in N x.toInt64 lo' hi' σ = some (0, σ) := by rw [in_ok N x lo hi h1 h2, if_neg h]
def MTp (σ : Wd) (T : Txt) : Prop := σ.1 41 8 = nI T.length ∧ ∀ i, i < T.length → σ.1 46 i = nI (T.getD i 0)
theorem MTp.fr {σ τ : Wd} {ks fs : List Nat} {T : Txt} (h : MTp σ T) (F : FrM ks fs σ τ) (h1 : 8 ∉ fs) (h2 : 46 ∉ ks) : MTp τ T := ⟨by rw [F.m h1]; exact h.1, fun i hi => by rw [F.i h2 (by decide)]; exact h.2 i hi⟩
theorem here_ok (N : Nat) {σ : Wd} {T : Txt} (h : MTp σ T) (hl : T.length ≤ 40) {a : Nat} (ha : σ.1 41 11 = nI a) (ha2 : a < 1000) : f_X10_here N σ = some (if a < T.length then nI (T.getD a 0) else -1, σ) := by
  unfold f_X10_here
  rw [h.1, ha]
  by_cases hc : a < T.length
  · rw [if_neg (fun z => by have := (nLe (by omega) (by omega)).mp z; omega), if_pos hc, xld_n (by omega) (by omega), obind, h.2 a hc]
  · rw [if_pos ((nLe (by omega) (by omega)).mpr (by omega)), if_neg hc]
theorem let_in {x : Nat} (hx : x < 2147483648) : ((97 : Int32) ≤ nI x ∧ nI x ≤ 122) ↔ isLt x = true := by
  unfold isLt
  rw [decide_eq_true_eq]
  exact ⟨fun z => ⟨(nLe (a := 97) (by omega) hx).mp z.1, (nLe (b := 122) hx (by omega)).mp z.2⟩, fun z => ⟨(nLe (a := 97) (by omega) hx).mpr z.1, (nLe (b := 122) hx (by omega)).mpr z.2⟩⟩
theorem readsName_ok (N : Nat) (hN : 2048 < N) {σ : Wd} {T : Txt} (h : MTp σ T) (hl : T.length ≤ 40) (hw : WTx T) : ∃ τ, f_X10_readsName N σ = some τ ∧ τ.1 41 11 = nI (lett T) ∧ τ.1 41 9 = nI (lett T) ∧ (∀ i, i < lett T → τ.1 47 i = nI (T.getD i 0)) ∧ FrM [47] [9, 11] σ τ := by
  obtain ⟨l1, l2, l3⟩ := lett_sp T
  obtain ⟨l4, l5, l6⟩ := fiN_sp (fun i => !isLt (T.getD i 0)) (min T.length 4)
  unfold f_X10_readsName
  dsimp only
  obtain ⟨τ, ⟨F, q1, q2, q3⟩, e⟩ := lp_up (g := fun fu i s => f_X10_readsName_L10 N (f_X10_readsName_J71 N) fu s) (E := fun s => f_X10_readsName_J71 N s) (P := fun i τ => FrM [47] [9, 11] σ τ ∧ τ.1 41 11 = nI i ∧ τ.1 41 9 = nI i ∧ ∀ j, j < i → τ.1 47 j = nI (T.getD j 0)) (m := lett T) (fun fu i τ hi ⟨F, q1, q2, q3⟩ => by
      have ht := h.fr F (by decide) (by decide)
      have hx := l3 i hi
      have hh := here_ok N ht hl q1 (by omega)
      rw [if_pos (by omega)] at hh
      refine ⟨sF (sF (sF τ 47 i (nI (T.getD i 0))) 41 9 (nI (i + 1))) 41 11 (nI (i + 1)), ⟨((F.F (by decide) (by decide)).D (by decide)).D (by decide), sF_eq, by rw [sF_nb (by decide), sF_eq], fun j hj => ?_⟩, ?_⟩
      · rw [sF_ne (by decide), sF_ne (by decide)]
        by_cases hji : j = i
        · rw [hji, sF_eq]
        · rw [sF_nb hji]; exact q3 j (by omega)
      · rw [f_X10_readsName_L10, q2, if_neg (show ¬ (4 : Int32) ≤ nI i from fun z => by have := (nLe (a := 4) (by omega) (by omega)).mp z; omega), hh, obind]
        dsimp only
        rw [in_y N (lo := 97) (hi := 122) (by decide) (by decide) ((let_in (by omega)).mpr (by unfold isLt; rw [decide_eq_true_eq]; exact hx)), obind]
        dsimp only
        rw [if_neg (show ¬ (1 : Int32) = 0 by decide), hh, obind]
        dsimp only
        rw [q2, xst_n (by omega) (by omega), obind, sF_ne (show 41 ≠ 47 by decide), q2, sF_nb (show 11 ≠ 9 by decide), sF_ne (show 41 ≠ 47 by decide), q1, nI_1]) (fun fu τ ⟨F, q1, q2, q3⟩ => by
      have ht := h.fr F (by decide) (by decide)
      have hh := here_ok N ht hl q1 (by omega)
      rw [f_X10_readsName_L10, q2]
      by_cases c4 : 4 ≤ lett T
      · rw [if_pos (show (4 : Int32) ≤ nI (lett T) from (nLe (a := 4) (by omega) (by omega)).mpr c4)]
      · rw [if_neg (show ¬ (4 : Int32) ≤ nI (lett T) from fun z => c4 ((nLe (a := 4) (by omega) (by omega)).mp z)), hh, obind]
        by_cases cl : lett T < T.length
        · rw [if_pos cl]
          have hb := hw.get cl
          have := l6 (show lett T < min T.length 4 by omega)
          have hnl : ¬ isLt (T.getD (lett T) 0) = true := fun z => by
            have h2 : (!isLt (T.getD (lett T) 0)) = true := this
            rw [z] at h2; cases h2
          dsimp only
          rw [in_n N (lo := 97) (hi := 122) (by decide) (by decide) (fun z => hnl ((let_in (by omega)).mp z)), obind]
          dsimp only
          rw [if_pos rfl]
        · rw [if_neg cl]
          dsimp only
          rw [in_n N (lo := 97) (hi := 122) (by decide) (by decide) (by decide), obind]
          dsimp only
          rw [if_pos rfl]) (lett T) N 0 (sF (sF σ 41 11 0) 41 9 0) (by omega) (by omega) ⟨((FrM.rf _ _ σ).D (by decide)).D (by decide), by rw [sF_nb (by decide), sF_eq]; rfl, sF_eq, fun j hj => absurd hj (Nat.not_lt_zero j)⟩
  exact ⟨τ, e, q1, q2, q3, F⟩
/-- rows of small numbers -/
def NRow (σ : Wd) (K base : Nat) (xs : List Nat) : Prop := ∀ i x, xs[i]? = some x → σ.1 K (base + i) = nI x ∧ x < 1000
def figs (bs : Blk) : List Nat := bs.map (fun b => 10 * b.1 + b.2)
theorem figs_len (bs : Blk) : (figs bs).length = bs.length := List.length_map _
theorem MRow.n {σ : Wd} {K base : Nat} {bs : Blk} (h : MRow σ K base bs) (V : VB bs) : NRow σ K base (figs bs) := fun i x hx => by
  unfold figs at hx
  rw [List.getElem?_map] at hx
  cases hb : bs[i]? with
  | none => rw [hb] at hx; cases hx
  | some b =>
    rw [hb] at hx
    have hx2 : 10 * b.1 + b.2 = x := Option.some.inj hx
    have := V.2.1 b (List.mem_of_getElem? hb)
    rw [← hx2]
    exact ⟨h i b hb, by omega⟩
theorem figs_inj : ∀ (a b : Blk), VC a → VC b → figs a = figs b → a = b
  | [], [], _, _, _ => rfl
  | [], y :: b, _, _, h => by simp [figs] at h
  | x :: a, [], _, _, h => by simp [figs] at h
  | x :: a, y :: b, ha, hb, h => by
    have h1 := ha x List.mem_cons_self
    have h2 := hb y List.mem_cons_self
    simp only [figs, List.map_cons, List.cons.injEq] at h
    have h3 : x = y := Prod.ext (by omega) (by omega)
    rw [h3, figs_inj a b (fun z hz => ha z (List.mem_cons_of_mem _ hz)) (fun z hz => hb z (List.mem_cons_of_mem _ hz)) h.2]
theorem alike_loop (N : Nat) {σ : Wd} {K0 L0 K3 L3 a b : Nat} {xs ys : List Nat} (hx : NRow σ K0 a xs) (hy : NRow σ K3 b ys) (hl : xs.length = ys.length) (ha : a + xs.length ≤ L0) (hb : b + ys.length ≤ L3) (hL0 : L0 < 10000) (hL3 : L3 < 10000) : ∀ (c fu i : Nat), i + c = xs.length → c + 1 < fu → (∀ q, q < i → xs[q]? = ys[q]?) →
    f_X10_areAlike_L16 N K0 L0 K3 L3 (f_X10_areAlike_J56 N K0 L0 K3 L3) fu (nI a) (nI xs.length) (nI b) 1 (nI i) σ = some (if xs = ys then 1 else 0, σ)
  | 0, fu + 1, i, h1, _, h3 => by
    rw [f_X10_areAlike_L16, if_pos ((nLe (by omega) (by omega)).mpr (by omega))]
    have he : xs = ys := by
      apply List.ext_getElem?
      intro q
      by_cases hq : q < i
      · exact h3 q hq
      · rw [List.getElem?_eq_none (by omega), List.getElem?_eq_none (by omega)]
    rw [if_pos he]; rfl
  | c + 1, fu + 1, i, h1, h2, h3 => by
    have hpx : xs[i]? = some (xs[i]'(by omega)) := List.getElem?_eq_getElem (by omega)
    have hpy : ys[i]? = some (ys[i]'(by omega)) := List.getElem?_eq_getElem (by omega)
    obtain ⟨x1, x2⟩ := hx i _ hpx
    obtain ⟨y1, y2⟩ := hy i _ hpy
    rw [f_X10_areAlike_L16, if_neg (fun z => by have := (nLe (by omega) (by omega)).mp z; omega), if_neg (show ¬ (1 : Int32) = 0 by decide), nI_add, nI_add, xld_n (by omega) (by omega), obind, xld_n (by omega) (by omega), obind, x1, y1, nI_1]
    by_cases he : xs[i]'(by omega) = ys[i]'(by omega)
    · rw [if_pos (by rw [he])]
      refine alike_loop N hx hy hl ha hb hL0 hL3 c fu (i + 1) (by omega) (by omega) (fun q hq => ?_)
      by_cases hqi : q = i
      · rw [hqi, hpx, hpy, he]
      · exact h3 q (by omega)
    · rw [if_neg (neN (by omega) (by omega) he), if_neg (fun z => he (by
        have := congrArg (fun l : List Nat => l[i]?) z
        try dsimp only at this
        rw [hpx, hpy] at this
        exact Option.some.inj this))]
      obtain ⟨f2, rfl⟩ : ∃ f2, fu = f2 + 1 := ⟨fu - 1, by omega⟩
      rw [f_X10_areAlike_L16]
      by_cases hc : xs.length ≤ i + 1
      · rw [if_pos ((nLe (by omega) (by omega)).mpr hc)]; rfl
      · rw [if_neg (fun z => hc ((nLe (by omega) (by omega)).mp z)), if_pos rfl]; rfl
theorem areAlike_ok (N : Nat) (hN : 2048 < N) {σ : Wd} {K0 L0 K3 L3 a b : Nat} {xs ys : List Nat} (hx : NRow σ K0 a xs) (hy : NRow σ K3 b ys) (ha : a + xs.length ≤ L0) (hb : b + ys.length ≤ L3) (hL0 : L0 < 1000) (hL3 : L3 < 1000) : f_X10_areAlike N K0 L0 K3 L3 (nI a) (nI xs.length) (nI b) (nI ys.length) σ = some (if xs = ys then 1 else 0, σ) := by
  unfold f_X10_areAlike
  by_cases hl : xs.length = ys.length
  · rw [if_pos (by rw [hl])]
    exact alike_loop N hx hy hl ha hb (by omega) (by omega) xs.length N 0 (by omega) (by omega) (fun q hq => absurd hq (Nat.not_lt_zero q))
  · rw [if_neg (neN (by omega) (by omega) hl), if_neg (show ¬ xs = ys from fun z => hl (by rw [z]))]
    obtain ⟨f2, rfl⟩ : ∃ f2, N = f2 + 1 := ⟨N - 1, by omega⟩
    rw [f_X10_areAlike_L16]
    by_cases hc : xs.length ≤ 0
    · rw [if_pos (show nI xs.length ≤ 0 from (nLe (b := 0) (by omega) (by omega)).mpr hc)]; rfl
    · rw [if_neg (show ¬ nI xs.length ≤ 0 from fun z => hc ((nLe (b := 0) (by omega) (by omega)).mp z)), if_pos rfl]; rfl
theorem alikeB_ok (N : Nat) (hN : 2048 < N) {σ : Wd} {K0 L0 K3 L3 a b : Nat} {as bs : Blk} (A : VB as) (B : VB bs) (hx : MRow σ K0 a as) (hy : MRow σ K3 b bs) (ha : a + as.length ≤ L0) (hb : b + bs.length ≤ L3) (hL0 : L0 < 1000) (hL3 : L3 < 1000) : f_X10_areAlike N K0 L0 K3 L3 (nI a) (nI as.length) (nI b) (nI bs.length) σ = some (if as = bs then 1 else 0, σ) := by
  have := areAlike_ok N hN (hx.n A) (hy.n B) (by rw [figs_len]; exact ha) (by rw [figs_len]; exact hb) hL0 hL3
  rw [figs_len, figs_len] at this
  rw [this]
  by_cases h : as = bs
  · rw [if_pos h, if_pos (by rw [h])]
  · rw [if_neg h, if_neg (fun z => h (figs_inj as bs A.2.1 B.2.1 z))]
theorem widthOf_ok (N : Nat) (hN : 2048 < N) {σ : Wd} {K L base : Nat} {bs : Blk} (V : VB bs) (h : MRow σ K base bs) (hl : base + bs.length ≤ L) (hL : L < 1000) : f_X10_widthOf N K L (nI base) (nI bs.length) σ = some (nI (wid bs), σ) := by
  have hV := V.1
  unfold f_X10_widthOf
  obtain ⟨c, rfl, e⟩ := lp_up (g := fun fu i c => f_X10_widthOf_L5 N K L (f_X10_widthOf_J29 N K L) fu (nI base) (nI bs.length) c (nI i) σ) (E := fun c => f_X10_widthOf_J29 N K L c σ) (P := fun i c => c = nI (wid (bs.take i))) (m := bs.length) (fun fu i c hi hc => by
      subst hc
      have hp : bs[i]? = some bs[i] := List.getElem?_eq_getElem hi
      have hv := V.2.1 _ (List.mem_of_getElem? hp)
      have hwt := wid_take bs i
      rw [hp] at hwt
      dsimp only at hwt
      obtain ⟨d1, d2⟩ := fig_dm (k := bs[i].1) hv.2.2
      refine ⟨nI (wid (bs.take (i + 1))), rfl, ?_⟩
      rw [f_X10_widthOf_L5, if_neg (fun z => by have := (nLe (by omega) (by omega)).mp z; omega), nI_add, xld_n (by omega) (by omega), obind, h i _ hp, show (10 : Int32) = nI 10 from rfl, pk_rem (by omega) (by decide) (by decide), d2, nI_add, nI_1, hwt]) (fun fu c hc => by
      rw [f_X10_widthOf_L5, if_pos ((nLe (by omega) (by omega)).mpr (Nat.le_refl _))]) bs.length N 0 0 (by omega) (by omega) rfl
  rw [List.take_length] at e
  exact e
end
