/-! What is answered of blocks, by delays and arrivals. -/
def oTM (bs : Blk) (d ar : Nat → Nat) (i : Nat) : Nat := TM d ar (outT (nets bs) i)
def aLast (bs : Blk) (d ar : Nat → Nat) : Nat := mxT (oTM bs d ar) (wid bs + 1)
def aUnl (bs : Blk) (d ar : Nat → Nat) : Nat := unl (oTM bs d ar) (wid bs + 1)
def aDeep (bs : Blk) (d ar : Nat → Nat) : Nat := mxT (fun i => if oTM bs d ar i = aLast bs d ar then (DP d ar (outT (nets bs) i)).2 else 0) (wid bs + 1)
noncomputable def aHang (bs : Blk) (d ar : Nat → Nat) : Nat := by
  classical
  exact hbits (fun i => decide (∃ j, j ≤ wid bs ∧ oTM bs d ar j = aLast bs d ar ∧ (HS d ar (outT (nets bs) j)).2.2 i)) 25
def oST (bs : Blk) (d ar : Nat → Nat) (a b c i : Nat) : Nat × Nat := STl d ar (vaL a b c) (outT (nets bs) i)
def aAdds (bs : Blk) (d ar : Nat → Nat) (a b c : Nat) : Nat := obits (fun i => (oST bs d ar a b c i).1) (wid bs + 1)
def aSet (bs : Blk) (d ar : Nat → Nat) (a b c : Nat) : Nat := mxT (fun i => (oST bs d ar a b c i).2) (wid bs + 1)
theorem hbits_cg {f g : Nat → Bool} : ∀ i, (∀ j, j < i → f j = g j) → hbits f i = hbits g i
  | 0, _ => rfl
  | i + 1, h => by unfold hbits; rw [hbits_cg i (fun j hj => h j (by omega)), h i (by omega)]
theorem come_cls (N : Nat) (hN : 512 < N) {σ : Wd} {n : Nat} {den d ar : Nat → Nat} {bs : Blk} (H : CLS σ n den (nets bs)) (V : VB bs) (hD : DA σ d ar) (hb : dab d ar) :
    ∃ τ, f_X8_come N σ = some τ ∧ Fr [32] σ τ ∧ (∀ i, i ≤ wid bs → f_X8_ofOutcome N (nI i) τ = some (nI (oTM bs d ar i), τ) ∧ oTM bs d ar i < 1000000) ∧ (f_X8_ofOutcome N (-1) τ = some (nI (aLast bs d ar), τ) ∧ aLast bs d ar < 1000000) ∧ f_X8_unlikeTimes N τ = some (nI (aUnl bs d ar), τ) ∧
      (∃ τ2, f_X8_deepest N τ = some (nI (aDeep bs d ar), τ2) ∧ Fr [35] τ τ2) ∧ (∃ τ2, f_X8_markHanging N τ = some τ2 ∧ Fr [34] τ τ2 ∧ f_X8_hangingInputs N τ2 = some (nI (aHang bs d ar), τ2)) := by
  classical
  obtain ⟨kd, l, r, hG⟩ := H.1.gr
  obtain ⟨oz, hO, hoz⟩ := H.og (by rw [nets_1]; exact V.2.2)
  rw [nets_1] at hO hoz
  obtain ⟨τ, e, F, R⟩ := come_ok N hN hG hD hb
  have hn := hG.2.1
  have G2 := hG.fr F (by decide) (by decide) (by decide) (by decide)
  have O2 := hO.fr F (by decide) (by decide)
  have D2 := hD.fr F (by decide) (by decide)
  have hcg : ∀ j, j < wid bs + 1 → TM d ar (den (oz j)) = oTM bs d ar j := fun j hj => by unfold oTM; rw [hoz j (by omega)]
  have hlast : mxT (fun i => TM d ar (den (oz i))) (wid bs + 1) = aLast bs d ar := mxT_cg _ hcg
  have hlt : ∀ i, i ≤ wid bs → oTM bs d ar i < 1000000 := fun i hi => by rw [← hcg i (by omega)]; exact (R (oz i) (hO.2.2.2.2 i hi)).2
  refine ⟨τ, e, F, fun i hi => ⟨?_, hlt i hi⟩, ⟨?_, ?_⟩, ?_, ?_, ?_⟩
  · rw [of_ok N hn O2 R hi, hcg i (by omega)]
  · rw [ofm_ok N hN hn O2 R, hlast]
  · exact mxT_lt (by omega) _ (fun j hj => hlt j (by omega))
  · rw [unlike_ok N hN hn O2 R]
    unfold aUnl
    rw [unl_cg _ hcg]
  · obtain ⟨τ2, e2, F2⟩ := depth_ok N hN G2 O2 D2 hb R
    refine ⟨τ2, ?_, F2⟩
    rw [e2, hlast]
    unfold aDeep
    congr 3
    refine mxT_cg _ fun j hj => ?_
    rw [hcg j hj, hoz j (by omega)]
  · obtain ⟨τ2, e2, F2, e3⟩ := hangs_ok N hN G2 O2 D2 hb R (f := fun i => decide (∃ j, j ≤ wid bs ∧ oTM bs d ar j = aLast bs d ar ∧ (HS d ar (outT (nets bs) j)).2.2 i)) (fun i hi => by
      rw [decide_eq_true_iff, hlast]
      constructor
      · rintro ⟨j, j1, j2, j3⟩; exact ⟨j, j1, by rw [hcg j (by omega)]; exact j2, by rw [hoz j j1]; exact j3⟩
      · rintro ⟨j, j1, j2, j3⟩; exact ⟨j, j1, by rw [← hcg j (by omega)]; exact j2, by rw [← hoz j j1]; exact j3⟩)
    refine ⟨τ2, e2, F2, ?_⟩
    rw [e3]
    congr 3
def V33 (σ : Wd) : Prop := ∀ k, k < 27 → σ.1 33 k = 0 ∨ σ.1 33 k = 1
theorem V33.fr {σ τ : Wd} {ks : List Nat} (h : V33 σ) (F : Fr ks σ τ) (hk : 33 ∉ ks) : V33 τ := fun k hk2 => by rw [F.i hk]; exact h k hk2
theorem settle_cls (N : Nat) (hN : 512 < N) {σ : Wd} {n : Nat} {den d ar : Nat → Nat} {bs : Blk} (H : CLS σ n den (nets bs)) (V : VB bs) (hD : DA σ d ar) (hb : dab d ar) (hV : V33 σ) {a b c : Nat} (ha : a < 2147483648) (hb2 : b < 2147483648) (hc : c ≤ 1) :
    ∃ τ, f_X8_settle N (nI a) (nI b) (nI c) σ = some τ ∧ Fr [32, 33] σ τ ∧ V33 τ ∧ (∀ i, i ≤ wid bs → f_X8_ofOutcome N (nI i) τ = some (nI (oST bs d ar a b c i).2, τ)) ∧ (f_X8_ofOutcome N (-1) τ = some (nI (aSet bs d ar a b c), τ) ∧ aSet bs d ar a b c < 1000000) ∧ f_X8_outcomeBits N τ = some (nI (aAdds bs d ar a b c), τ) := by
  obtain ⟨kd, l, r, hG⟩ := H.1.gr
  obtain ⟨oz, hO, hoz⟩ := H.og (by rw [nets_1]; exact V.2.2)
  rw [nets_1] at hO hoz
  obtain ⟨τ, lv, e, F, l1, l2, RV, RS⟩ := settle_ok N hN hG hO.2.1 hO.1 hD hb hV ha hb2 hc
  have hn := hG.2.1
  have O2 := hO.fr F (by decide) (by decide)
  have hst := st_bd hG.1 lfC_ok hb l2 (d := d) (ar := ar)
  have hcg : ∀ j, j < wid bs + 1 → STl d ar lv (den (oz j)) = oST bs d ar a b c j := fun j hj => by
    unfold oST STl
    rw [hoz j (by omega)]
    exact fold_cg (w := wid bs) (fun s hs h => by rw [l1 s hs h]) _ (LV_nets V j (by omega))
  refine ⟨τ, e, F, fun k hk => ?_, fun i hi => ?_, ⟨?_, ?_⟩, ?_⟩
  · have h27 := hG.1.1
    have h1 := (RV k (by omega)).1
    have h2 := (hst k (by omega)).1
    have h3 : (STl d ar lv (den k)).1 = 0 ∨ (STl d ar lv (den k)).1 = 1 := by omega
    dsimp only at h1
    rcases h3 with h3 | h3 <;> rw [h3] at h1 <;> rw [h1]
    · exact Or.inl rfl
    · exact Or.inr rfl
  · rw [of_ok N hn O2 RS hi, hcg i (by omega)]
  · rw [ofm_ok N hN hn O2 RS]
    unfold aSet
    rw [mxT_cg (f := fun i => (STl d ar lv (den (oz i))).2) (g := fun i => (oST bs d ar a b c i).2) _ (fun j hj => by rw [hcg j hj])]
  · exact mxT_lt (by omega) _ (fun j hj => by
      rw [← hcg j hj]
      have := (hst (oz j) (hO.2.2.2.2 j (by omega))).2
      have := hO.2.2.2.2 j (by omega)
      omega)
  · rw [bits_ok N hN hn O2 RV (fun k hk => (hst k hk).1)]
    unfold aAdds
    rw [obits_cg (f := fun i => (STl d ar lv (den (oz i))).1) (g := fun i => (oST bs d ar a b c i).1) _ (fun j hj => by rw [hcg j hj])]
/-! Sweeps. -/
def swAt (bs : Blk) (d ar : Nat → Nat) (i : Nat) : Nat := aSet bs d ar (i % 2 ^ wid bs) (i / 2 ^ wid bs % 2 ^ wid bs) (i / 2 ^ (2 * wid bs))
/-- the sweep holds these blocks -/
def SWD (σ : Wd) (bs : Blk) (d ar : Nat → Nat) : Prop := VB bs ∧ wid bs ≤ 4 ∧ σ.2 6 2 = lN (bcode bs) ∧ σ.1 6 3 = nI (wid bs) ∧ (∀ i, i < 2 * 2 ^ (2 * wid bs) → σ.1 36 i = nI (swAt bs d ar i) ∧ swAt bs d ar i < 1000000)
def SWI (σ : Wd) (d ar : Nat → Nat) : Prop := σ.1 6 0 = 0 ∨ (σ.1 6 0 = 1 ∧ ∃ bs, SWD σ bs d ar)
theorem SWD.fr {σ τ : Wd} {ks : List Nat} {bs : Blk} {d ar : Nat → Nat} (h : SWD σ bs d ar) (F : Fr ks σ τ) (h6 : 6 ∉ ks) (h36 : 36 ∉ ks) : SWD τ bs d ar := by
  obtain ⟨h1, h2, h3, h4, h5⟩ := h
  exact ⟨h1, h2, by rw [F.l h6]; exact h3, by rw [F.i h6]; exact h4, fun i hi => by rw [F.i h36]; exact h5 i hi⟩
theorem SWI.fr {σ τ : Wd} {ks : List Nat} {d ar : Nat → Nat} (h : SWI σ d ar) (F : Fr ks σ τ) (h6 : 6 ∉ ks) (h36 : 36 ∉ ks) : SWI τ d ar := by
  unfold SWI
  rw [F.i h6]
  exact h.imp id (fun ⟨a, bs, b⟩ => ⟨a, bs, b.fr F h6 h36⟩)
theorem pw4 {w : Nat} (h : w ≤ 4) : 2 * 2 ^ (2 * w) ≤ 512 ∧ 2 ^ w ≤ 16 ∧ 2 ^ (2 * w) = 2 ^ w * 2 ^ w := by
  refine ⟨?_, Nat.pow_le_pow_right (by decide) (show w ≤ 4 from h), by rw [← Nat.pow_add]; congr 1; omega⟩
  have : 2 ^ (2 * w) ≤ 2 ^ 8 := Nat.pow_le_pow_right (by decide) (by omega)
  omega
theorem sw_amount (N : Nat) {σ : Wd} {w : Nat} (hw : w ≤ 4) (h : σ.1 6 3 = nI w) : f_X6_amount N σ = some (nI (2 * 2 ^ (2 * w)), σ) := by
  have := pw4 hw
  unfold f_X6_amount
  rw [h, show (2 : Int32) * nI w = nI (2 * w) from pk_mul 2 w, show (2 : Int32) <<< (nI (2 * w) &&& 31) = nI (2 * 2 ^ (2 * w)) from nI_shl (a := 2) (by omega) (by omega)]
theorem nI_mask {n w : Nat} (hw : w ≤ 12) : nI n &&& (nI (2 ^ w) - 1) = nI (n % 2 ^ w) := by
  have h1 : 2 ^ w ≤ 2 ^ 12 := Nat.pow_le_pow_right (by decide) hw
  have h2 := Nat.two_pow_pos w
  rw [show nI (2 ^ w) - 1 = nI (2 ^ w - 1) from nSub (b := 1) (by omega), nI_and n w (by omega) (by show (BitVec.ofNat 32 (2 ^ w - 1)).toNat = _; rw [BitVec.toNat_ofNat, Nat.mod_eq_of_lt (by omega)])]
theorem sw_one {w : Nat} (hw : w ≤ 12) : (1 : Int32) <<< (nI w &&& 31) = nI (2 ^ w) := by
  have h1 : 2 ^ w ≤ 2 ^ 12 := Nat.pow_le_pow_right (by decide) hw
  have := nI_shl (a := 1) (k := w) (by omega) (by omega)
  rw [Nat.one_mul] at this
  exact this
theorem sw_A (N : Nat) {σ : Wd} {w i : Nat} (hw : w ≤ 4) (h : σ.1 6 3 = nI w) : f_X6_numberA N (nI i) σ = some (nI (i % 2 ^ w), σ) := by
  unfold f_X6_numberA
  rw [h, sw_one (by omega), nI_mask (by omega)]
theorem sw_B (N : Nat) {σ : Wd} {w i : Nat} (hw : w ≤ 4) (hi : i < 2147483648) (h : σ.1 6 3 = nI w) : f_X6_numberB N (nI i) σ = some (nI (i / 2 ^ w % 2 ^ w), σ) := by
  unfold f_X6_numberB
  rw [h, sw_one (by omega), nI_shr hi (by omega), nI_mask (by omega)]
theorem sw_C {w i : Nat} (hw : w ≤ 4) (hi : i < 2147483648) : nI i >>> (((2 : Int32) * nI w) &&& 31) = nI (i / 2 ^ (2 * w)) := by
  rw [show (2 : Int32) * nI w = nI (2 * w) from pk_mul 2 w, nI_shr hi (by omega)]
theorem over_loop (N : Nat) (hN : 512 < N) {σ : Wd} {n : Nat} {den d ar : Nat → Nat} {bs : Blk} (H : CLS σ n den (nets bs)) (V : VB bs) (hw : wid bs ≤ 4) (h63 : σ.1 6 3 = nI (wid bs)) (hD : DA σ d ar) (hb : dab d ar) (hV : V33 σ) (x : Int64) (KO : Int64 → Wd → Option Wd) :
    ∃ τ, (Fr [32, 33, 36] σ τ ∧ V33 τ ∧ ∀ i, i < 2 * 2 ^ (2 * wid bs) → τ.1 36 i = nI (swAt bs d ar i) ∧ swAt bs d ar i < 1000000) ∧ f_X6_over_L41 N KO N x 0 σ = KO x τ := by
  obtain ⟨p1, p2, p3⟩ := pw4 hw
  have pp := Nat.two_pow_pos (wid bs)
  refine lp_up (g := fun fu i σ => f_X6_over_L41 N KO fu x (nI i) σ) (E := fun σ => KO x σ) (P := fun i τ => Fr [32, 33, 36] σ τ ∧ V33 τ ∧ ∀ j, j < i → τ.1 36 j = nI (swAt bs d ar j) ∧ swAt bs d ar j < 1000000) (m := 2 * 2 ^ (2 * wid bs)) (fun fu i τ hi hP => ?_) (fun fu τ hP => ?_) (2 * 2 ^ (2 * wid bs)) N 0 σ (by omega) (by omega) ⟨Fr.rf _ σ, hV, fun j hj => by omega⟩
  · obtain ⟨F, V3, P⟩ := hP
    have hle : ¬ 2 * 2 ^ (2 * wid bs) ≤ i := by omega
    have h63' := (F.i (a := 6) (by decide) 3).trans h63
    have hc : i / 2 ^ (2 * wid bs) ≤ 1 := by
      have : i / 2 ^ (2 * wid bs) < 2 := (Nat.div_lt_iff_lt_mul (by rw [p3]; exact Nat.mul_pos pp pp)).mpr (by omega)
      omega
    have ha : i % 2 ^ wid bs < 2147483648 := by have := Nat.mod_lt i pp; omega
    have hb2 : i / 2 ^ wid bs % 2 ^ wid bs < 2147483648 := by have := Nat.mod_lt (i / 2 ^ wid bs) pp; omega
    obtain ⟨τ1, e1, F1, V1, -, ⟨o1, o2⟩, -⟩ := settle_cls N hN (H.fr F (by decide)) V (hD.fr F (by decide) (by decide)) hb V3 ha hb2 hc
    refine ⟨sF τ1 36 i (nI (swAt bs d ar i)), ⟨(F.tr (F1.mo (by decide))).F (by decide), V1.fr ((Fr.rf [36] τ1).F (by decide)) (by decide), fun j hj => ?_⟩, ?_⟩
    · by_cases hji : j = i
      · subst hji; exact ⟨sF_eq, o2⟩
      · rw [sF_nb hji, F1.i (by decide)]; exact P j (by omega)
    · simp (disch := omega) only [f_X6_over_L41, sw_amount N hw h63', obind, nLe, hle, if_false, sw_A N hw h63', sw_B N hw (show i < 2147483648 by omega) h63', h63', sw_C hw (show i < 2147483648 by omega), e1, o1, xst_n, nI_1]
      rfl
  · have h63' := (hP.1.i (a := 6) (by decide) 3).trans h63
    simp (disch := omega) only [f_X6_over_L41, sw_amount N hw h63', obind, nLe, Nat.le_refl, if_true]
def swC : List Nat := [4, 6, 18, 19, 20, 21, 22, 23, 24, 25, 26, 27, 28, 29, 32, 33, 36]
theorem over_J (N : Nat) (hN : 512 < N) {σ : Wd} {d ar : Nat → Nat} {bs : Blk} (V : VB bs) (hw : wid bs ≤ 4) (hD : DA σ d ar) (hb : dab d ar) (hV : V33 σ) : ∃ τ, f_X6_over_J17 N (lN (bcode bs)) σ = some τ ∧ Fr swC σ τ ∧ V33 τ ∧ τ.1 6 0 = 1 ∧ SWD τ bs d ar := by
  unfold f_X6_over_J17
  obtain ⟨τ0, e0, C0, F0⟩ := clear_ok N (by omega) σ
  rw [e0, obind]
  obtain ⟨τ1, n1, d1, e1, C1, X1, F1⟩ := build_ok N (by omega) V C0.1 (by omega)
  rw [e1, obind, C1.2.1, nets_1, show (4 : Int32) = nI 4 from rfl, min_ok N (by omega) (by omega), obind, Nat.min_eq_left hw]
  have F01 : Fr netC σ τ1 := (F0.fr.mo (by decide)).tr (F1.fr.mo (by decide))
  have Fs : Fr [6] τ1 (sF τ1 6 3 (nI (wid bs))) := (Fr.rf _ τ1).F (by decide)
  obtain ⟨τ, ⟨F, V3, P⟩, e⟩ := over_loop N hN (C1.fr Fs (by decide)) V hw sF_eq ((hD.fr F01 (by decide) (by decide)).fr Fs (by decide) (by decide)) hb ((hV.fr F01 (by decide)).fr Fs (by decide)) (lN (bcode bs)) (f_X6_over_J95 N)
  dsimp only
  rw [e]
  unfold f_X6_over_J95
  dsimp only
  have FG : Fr [6] τ (sF (sG τ 6 2 (lN (bcode bs))) 6 0 1) := ((Fr.rf _ τ).G (by decide)).F (by decide)
  refine ⟨_, rfl, (((F01.mo (by decide)).tr (Fs.mo (by decide))).tr (F.mo (by decide))).tr (FG.mo (by decide)), V3.fr FG (by decide), sF_eq, V, hw, ?_, ?_, fun i hi => ?_⟩
  · rw [sF_2, sG_2, if_pos rfl, if_pos rfl]
  · rw [sF_nb (by decide), sG_1, F.i (by decide), sF_eq]
  · rw [FG.i (by decide)]; exact P i hi
theorem VB.inj {a b : Blk} (A : VB a) (B : VB b) (h : lN (bcode a) = lN (bcode b)) : a = b := by
  have h1 := A.lt
  have h2 := B.lt
  exact bcode_inj a b A.2.1 B.2.1 ((pk_lEQ (by omega) (by omega)).mp h)
theorem over_ok (N : Nat) (hN : 512 < N) {σ : Wd} {d ar : Nat → Nat} {bs : Blk} (V : VB bs) (hw : wid bs ≤ 4) (hD : DA σ d ar) (hb : dab d ar) (hV : V33 σ) (hS : SWI σ d ar) : ∃ τ, f_X6_over N (lN (bcode bs)) σ = some τ ∧ Fr swC σ τ ∧ V33 τ ∧ τ.1 6 0 = 1 ∧ SWD τ bs d ar := by
  unfold f_X6_over
  rcases hS with h0 | ⟨h0, b2, h2⟩
  · rw [if_pos h0]
    exact over_J N hN V hw hD hb hV
  · rw [if_neg (by rw [h0]; decide)]
    by_cases hc : lg_cmp (σ.2 6 2) (lN (bcode bs)) = 0
    · rw [if_pos hc]
      have he := (lg_cmp_eq _ _).mp hc
      rw [h2.2.2.1] at he
      have := VB.inj h2.1 V he
      subst this
      exact ⟨σ, rfl, Fr.rf _ σ, hV, h0, h2⟩
    · rw [if_neg hc]
      exact over_J N hN V hw hD hb hV
/-- the first greatest of the first -/
def fmx (f : Nat → Nat) : Nat → Nat
  | 0 => 0
  | i + 1 => if f (fmx f i) < f i then i else fmx f i
theorem fmx_lt (f : Nat → Nat) : ∀ i, 0 < i → fmx f i < i
  | 0, h => absurd h (Nat.lt_irrefl 0)
  | i + 1, _ => by
    unfold fmx
    split
    · omega
    · cases i with
      | zero => exact Nat.one_pos
      | succ i => have := fmx_lt f (i + 1) (by omega); omega
def cle (f : Nat → Nat) (t : Nat) : Nat → Nat
  | 0 => 0
  | i + 1 => cle f t i + if f i ≤ t then 1 else 0
theorem cle_le (f : Nat → Nat) (t : Nat) : ∀ i, cle f t i ≤ i
  | 0 => Nat.le_refl 0
  | i + 1 => by have := cle_le f t i; unfold cle; split <;> omega
/-- of all a, b, c: the latest time, or the first numbers that have it -/
def aWorst (bs : Blk) (d ar : Nat → Nat) (what : Nat) : Nat :=
  if what = 0 then swAt bs d ar (fmx (swAt bs d ar) (2 * 2 ^ (2 * wid bs)))
  else if what = 1 then fmx (swAt bs d ar) (2 * 2 ^ (2 * wid bs)) % 2 ^ wid bs
  else if what = 2 then fmx (swAt bs d ar) (2 * 2 ^ (2 * wid bs)) / 2 ^ wid bs % 2 ^ wid bs
  else fmx (swAt bs d ar) (2 * 2 ^ (2 * wid bs)) / 2 ^ (2 * wid bs)
theorem worst_ok (N : Nat) (hN : 512 < N) {σ : Wd} {d ar : Nat → Nat} {bs : Blk} (h : SWD σ bs d ar) {what : Nat} (hwh : what < 4) : f_X6_worst N (nI what) σ = some (nI (aWorst bs d ar what), σ) := by
  obtain ⟨V, hw, h62, h63, hP⟩ := h
  obtain ⟨p1, p2, p3⟩ := pw4 hw
  have pp := Nat.two_pow_pos (2 * wid bs)
  have hall := fmx_lt (swAt bs d ar) (2 * 2 ^ (2 * wid bs)) (by omega)
  unfold f_X6_worst
  obtain ⟨m, ⟨-, rfl⟩, e⟩ := lp_up (g := fun fu i m => f_X6_worst_L4 N (f_X6_worst_J35 N) fu (nI what) m (nI i) σ) (E := fun m => f_X6_worst_J35 N (nI what) m σ) (P := fun i m => 1 ≤ i ∧ m = nI (fmx (swAt bs d ar) i)) (m := 2 * 2 ^ (2 * wid bs)) (fun fu i m hi hm => by
      obtain ⟨hi1, rfl⟩ := hm
      have hle : ¬ 2 * 2 ^ (2 * wid bs) ≤ i := by omega
      have hm := fmx_lt (swAt bs d ar) i (by omega)
      obtain ⟨q1, q2⟩ := hP i hi
      obtain ⟨q3, q4⟩ := hP (fmx (swAt bs d ar) i) (by omega)
      refine ⟨nI (fmx (swAt bs d ar) (i + 1)), ⟨by omega, rfl⟩, ?_⟩
      by_cases hc : swAt bs d ar (fmx (swAt bs d ar) i) < swAt bs d ar i
      · have hc2 : ¬ swAt bs d ar i ≤ swAt bs d ar (fmx (swAt bs d ar) i) := by omega
        rw [fmx, if_pos hc]
        simp (disch := omega) only [f_X6_worst_L4, sw_amount N hw h63, obind, nLe, hle, if_false, xld_n, q1, q3, hc2, nI_1]
      · have hc2 : swAt bs d ar i ≤ swAt bs d ar (fmx (swAt bs d ar) i) := by omega
        rw [fmx, if_neg hc]
        simp (disch := omega) only [f_X6_worst_L4, sw_amount N hw h63, obind, nLe, hle, if_false, xld_n, q1, q3, hc2, if_true, nI_1]) (fun fu m hm => by
      simp (disch := omega) only [f_X6_worst_L4, sw_amount N hw h63, obind, nLe, Nat.le_refl, if_true]) (2 * 2 ^ (2 * wid bs) - 1) N 1 0 (by omega) (by omega) ⟨by omega, by
        have : fmx (swAt bs d ar) 1 = 0 := by simp [fmx]
        rw [this]; rfl⟩
  refine Eq.trans e ?_
  unfold aWorst
  have hc : what = 0 ∨ what = 1 ∨ what = 2 ∨ what = 3 := by omega
  rcases hc with rfl | rfl | rfl | rfl
  · show ((xld σ 36 512 _).bind _) = _
    rw [xld_n (by omega) (by omega), obind, (hP _ hall).1]; rfl
  · show ((f_X6_numberA N _ σ).bind _) = _
    rw [sw_A N hw h63, obind]; rfl
  · show ((f_X6_numberB N _ σ).bind _) = _
    rw [sw_B N hw (by omega) h63, obind]; rfl
  · show some _ = _
    rw [h63, sw_C hw (by omega)]; rfl
theorem settledBy_ok (N : Nat) (hN : 512 < N) {σ : Wd} {d ar : Nat → Nat} {bs : Blk} (h : SWD σ bs d ar) {t : Nat} (ht : t < 1000000) : f_X6_settledBy N (nI t) σ = some (nI (cle (swAt bs d ar) t (2 * 2 ^ (2 * wid bs))), σ) := by
  obtain ⟨V, hw, h62, h63, hP⟩ := h
  obtain ⟨p1, p2, p3⟩ := pw4 hw
  unfold f_X6_settledBy
  obtain ⟨m, rfl, e⟩ := lp_up (g := fun fu i m => f_X6_settledBy_L4 N (f_X6_settledBy_J31 N) fu (nI t) m (nI i) σ) (E := fun m => f_X6_settledBy_J31 N m σ) (P := fun i m => m = nI (cle (swAt bs d ar) t i)) (m := 2 * 2 ^ (2 * wid bs)) (fun fu i m hi hm => by
      subst hm
      have hle : ¬ 2 * 2 ^ (2 * wid bs) ≤ i := by omega
      obtain ⟨q1, q2⟩ := hP i hi
      have hcl := cle_le (swAt bs d ar) t i
      refine ⟨nI (cle (swAt bs d ar) t (i + 1)), rfl, ?_⟩
      by_cases hc : swAt bs d ar i ≤ t
      · have hc2 : ¬ t < swAt bs d ar i := by omega
        rw [cle, if_pos hc]
        simp (disch := omega) only [f_X6_settledBy_L4, sw_amount N hw h63, obind, nLe, nLt, hle, if_false, xld_n, q1, hc2, nI_1]
      · have hc2 : t < swAt bs d ar i := by omega
        rw [cle, if_neg hc]
        simp (disch := omega) only [f_X6_settledBy_L4, sw_amount N hw h63, obind, nLe, nLt, hle, if_false, xld_n, q1, hc2, if_true, nI_1, Nat.add_zero]) (fun fu m hm => by
      simp (disch := omega) only [f_X6_settledBy_L4, sw_amount N hw h63, obind, nLe, Nat.le_refl, if_true]) (2 * 2 ^ (2 * wid bs)) N 0 0 (by omega) (by omega) rfl
  exact e
