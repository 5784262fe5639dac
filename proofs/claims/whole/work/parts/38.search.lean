/-! The search: all blocks of a width, the best of those in time. -/
noncomputable def aGates (bs : Blk) : Nat := gcnt (OUT bs) none
abbrev SSt : Type := Nat × Nat × Nat × Blk
noncomputable def weighS (d ar : Nat → Nat) (t : Nat) (s : SSt) (bs : Blk) : SSt :=
  if aLast bs d ar ≤ t then (if s.1 = 0 ∨ aGates bs < s.2.1 then (s.1 + 1, aGates bs, aLast bs d ar, bs) else (s.1 + 1, s.2)) else s
def cand (W ks : Nat) : Nat → Blk → List Blk
  | 0, _ => []
  | f + 1, bs => if W ≤ wid bs then [bs] else (List.range 4).flatMap fun k => (List.range (if ks / 2 ^ k % 2 = 1 then min 3 (W - wid bs) else 0)).flatMap fun b => cand W ks f (bs ++ [(k, b + 1)])
def SR (σ : Wd) (s : SSt) : Prop := σ.1 7 1 = nI s.1 ∧ σ.1 7 2 = nI s.2.1 ∧ σ.1 7 3 = nI s.2.2.1 ∧ σ.2 7 4 = lN (bcode s.2.2.2) ∧ s.2.1 < 1000000 ∧ s.2.2.1 < 1000000 ∧ VB s.2.2.2
theorem SR.fr {σ τ : Wd} {ks : List Nat} {s : SSt} (h : SR σ s) (F : Fr ks σ τ) (h7 : 7 ∉ ks) : SR τ s := by
  obtain ⟨h1, h2, h3, h4, h5⟩ := h
  exact ⟨by rw [F.i h7]; exact h1, by rw [F.i h7]; exact h2, by rw [F.i h7]; exact h3, by rw [F.l h7]; exact h4, h5⟩
theorem weighS_1 (d ar : Nat → Nat) (t : Nat) (s : SSt) (bs : Blk) : (weighS d ar t s bs).1 ≤ s.1 + 1 := by
  unfold weighS
  split
  · split <;> exact Nat.le_refl _
  · exact Nat.le_succ _
theorem foldS_1 (d ar : Nat → Nat) (t : Nat) : ∀ (l : List Blk) (s : SSt), (l.foldl (weighS d ar t) s).1 ≤ s.1 + l.length
  | [], s => Nat.le_refl _
  | b :: l, s => by
    have h1 := foldS_1 d ar t l (weighS d ar t s b)
    have h2 := weighS_1 d ar t s b
    simp only [List.foldl_cons, List.length_cons]
    omega
/-- cells that weighing writes -/
theorem weigh_ok (N : Nat) (hN : 512 < N) {σ : Wd} {n : Nat} {den d ar : Nat → Nat} {bs : Blk} {s : SSt} {t : Nat} (H : CLS σ n den (nets bs)) (V : VB bs) (hD : DA σ d ar) (hb : dab d ar) (hS : SR σ s) (hs : s.1 < 1000000000) (ht : σ.1 7 7 = nI t) (htb : t < 1000000) :
    ∃ τ, f_X4_weigh N (lN (bcode bs)) σ = some τ ∧ Fr [7, 21, 32] σ τ ∧ SR τ (weighS d ar t s bs) ∧ (∀ b, b ≠ 1 → b ≠ 2 → b ≠ 3 → τ.1 7 b = σ.1 7 b) := by
  unfold f_X4_weigh
  obtain ⟨τ1, e1, F1, -, ⟨o1, o2⟩, -⟩ := come_cls N hN H V hD hb
  have ht1 := (F1.i (a := 7) (by decide) 7).trans ht
  rw [e1, obind, o1, obind]
  dsimp only
  rw [ht1]
  unfold weighS
  by_cases hc : aLast bs d ar ≤ t
  · rw [if_pos ((nLe (by omega) (by omega)).mpr hc), if_pos hc]
    obtain ⟨τ2, e2, F2, g2⟩ := gates_cls N hN (H.fr F1 (by decide)) V.2.2
    obtain ⟨g3, g4⟩ := g2 none (fun q hq => by simp at hq)
    have g3' : f_X2_usedGates N (-1) τ2 = some (nI (aGates bs), τ2) := g3
    have g4' : aGates bs ≤ 512 := g4
    have F12 : Fr [7, 21, 32] σ τ2 := (F1.mo (by decide)).tr (F2.mo (by decide))
    have F12' : Fr [21, 32] σ τ2 := (F1.mo (by decide)).tr (F2.mo (by decide))
    have S2 := hS.fr F12' (by decide)
    rw [e2, obind, g3', obind]
    dsimp only
    have hput : ∀ τ, τ = sF (sG (sF (sF τ2 7 2 (nI (aGates bs))) 7 3 (nI (aLast bs d ar))) 7 4 (lN (bcode bs))) 7 1 (nI (s.1 + 1)) → Fr [7, 21, 32] σ τ ∧ SR τ (s.1 + 1, aGates bs, aLast bs d ar, bs) ∧ (∀ b, b ≠ 1 → b ≠ 2 → b ≠ 3 → τ.1 7 b = σ.1 7 b) := fun τ hτ => by
      subst hτ
      refine ⟨(((F12.F (by decide)).F (by decide)).G (by decide)).F (by decide), ⟨?_, ?_, ?_, ?_, by show aGates bs < _; omega, o2, V⟩, fun b b1 b2 b3 => ?_⟩
      · rw [sF_eq]
      · rw [sF_nb (by decide), sG_1, sF_nb (by decide), sF_eq]
      · rw [sF_nb (by decide), sG_1, sF_eq]
      · rw [sF_2, sG_2, if_pos rfl, if_pos rfl]
      · rw [sF_nb b1, sG_1, sF_nb b3, sF_nb b2, F12'.i (by decide)]
    have hJ : f_X4_weigh_J50 N (lN (bcode bs)) (nI (aLast bs d ar)) (nI (aGates bs)) τ2 = some (sF (sG (sF (sF τ2 7 2 (nI (aGates bs))) 7 3 (nI (aLast bs d ar))) 7 4 (lN (bcode bs))) 7 1 (nI (s.1 + 1))) := by
      unfold f_X4_weigh_J50
      dsimp only
      rw [sG_1, sF_nb (by decide), sF_nb (by decide), S2.1, nI_1]
    rw [S2.1, S2.2.1]
    obtain ⟨-, -, -, -, s5, s6, s7⟩ := id hS
    by_cases h0 : s.1 = 0
    · rw [if_pos (show nI s.1 = 0 by rw [h0]; rfl), hJ, if_pos (Or.inl h0)]
      exact ⟨_, rfl, hput _ rfl⟩
    · rw [if_neg (show ¬ nI s.1 = 0 from neN (b := 0) (by omega) (by omega) h0)]
      by_cases hg : s.2.1 ≤ aGates bs
      · rw [if_pos ((nLe (by omega) (by omega)).mpr hg), nI_1, if_neg (fun z => z.elim h0 (fun z => by omega))]
        refine ⟨_, rfl, F12.F (by decide), ⟨sF_eq, ?_, ?_, ?_, s5, s6, s7⟩, fun b b1 b2 b3 => ?_⟩
        · rw [sF_nb (by decide)]; exact S2.2.1
        · rw [sF_nb (by decide)]; exact S2.2.2.1
        · rw [sF_2]; exact S2.2.2.2.1
        · rw [sF_nb b1, F12'.i (by decide)]
      · rw [if_neg (fun z => hg ((nLe (by omega) (by omega)).mp z)), hJ, if_pos (Or.inr (by omega))]
        exact ⟨_, rfl, hput _ rfl⟩
  · rw [if_neg (fun z => hc ((nLe (by omega) (by omega)).mp z)), if_neg hc]
    exact ⟨τ1, rfl, F1.mo (by decide), hS.fr F1 (by decide), fun b _ _ _ => F1.i (by decide) b⟩
theorem bcode_app : ∀ (bs : Blk) (b : Nat × Nat), bcode (bs ++ [b]) = bcode bs + 64 ^ bs.length * (8 * b.1 + b.2)
  | [], b => by simp [bcode]
  | x :: bs, b => by
    have := bcode_app bs b
    simp only [List.cons_append, bcode, List.length_cons, Nat.pow_succ]
    rw [this, Nat.mul_add, Nat.mul_comm (64 ^ bs.length) 64, Nat.mul_assoc]
    omega
theorem wid_app (bs : Blk) (b : Nat × Nat) : wid (bs ++ [b]) = wid bs + b.2 := by
  unfold wid
  rw [List.map_append, List.sum_append]
  simp
theorem len_wid : ∀ {bs : Blk}, (∀ b, b ∈ bs → 1 ≤ b.2) → bs.length ≤ wid bs
  | [], _ => Nat.zero_le _
  | b :: bs, h => by
    have h1 := len_wid (bs := bs) (fun x hx => h x (List.mem_cons_of_mem _ hx))
    have h2 := h b List.mem_cons_self
    have : wid (b :: bs) = b.2 + wid bs := by unfold wid; rw [List.map_cons, List.sum_cons]
    rw [this, List.length_cons]; omega
theorem VB.app {bs : Blk} (V : VB bs) {k w : Nat} (hk : k < 4) (h1 : 1 ≤ w) (h6 : w ≤ 6) (hw : wid bs + w ≤ 8) : VB (bs ++ [(k, w)]) := by
  have hV : ∀ b, b ∈ bs ++ [(k, w)] → b.1 < 4 ∧ 1 ≤ b.2 ∧ b.2 ≤ 6 := fun b hb => by
    rcases List.mem_append.mp hb with h | h
    · exact V.2.1 b h
    · rw [List.mem_singleton.mp h]; exact ⟨hk, h1, h6⟩
  have hl := len_wid (fun b hb => (hV b hb).2.1)
  have hwa := wid_app bs (k, w)
  dsimp only at hwa
  exact ⟨by omega, hV, by omega⟩
theorem bw_code : ∀ k, k < 4 → ∀ w, w < 8 → (Int32.toInt64 ((nI k <<< (3 &&& 31)) ||| nI w)) = lN (8 * k + w) := by decide +kernel
theorem with_ok (N : Nat) {bs : Blk} (V : VB bs) (hl : bs.length ≤ 7) {k w : Nat} (hk : k < 4) (h6 : w ≤ 6) (σ : Wd) : f_X0_with N (lN (bcode bs)) (nI bs.length) (nI k) (nI w) σ = some (lN (bcode (bs ++ [(k, w)])), σ) := by
  unfold f_X0_with
  have hb := bcode_lt bs V.2.1
  have hb2 := V.lt
  have e64 : (64 : Nat) ^ bs.length = 2 ^ (6 * bs.length) := by rw [Nat.pow_mul]
  have hp : 2 ^ (6 * bs.length) ≤ 2 ^ 42 := Nat.pow_le_pow_right (by decide) (by omega)
  have hm : (8 * k + w) * 2 ^ (6 * bs.length) < 2 ^ 64 := by
    have : (8 * k + w) * 2 ^ (6 * bs.length) ≤ 31 * 2 ^ 42 := Nat.mul_le_mul (by omega) hp
    omega
  rw [bw_code k hk w (by omega), show (6 : Int32) * nI bs.length = nI (6 * bs.length) from pk_mul 6 _, wb_shl _ (by omega), wb_or (by omega) hm, or_add (by rw [← e64]; exact hb), bcode_app, e64, Nat.mul_comm (2 ^ (6 * bs.length))]
def growC : List Nat := [4, 7, 18, 19, 20, 21, 22, 23, 24, 25, 26, 27, 28, 29, 32]
/-- what a growth gives -/
def GRO (σ τ : Wd) (n : Nat) (den d ar : Nat → Nat) (bs : Blk) (s : SSt) : Prop :=
  CLS τ n den (nets bs) ∧ Fr growC σ τ ∧ SR τ s ∧ (∀ b, b ≠ 1 → b ≠ 2 → b ≠ 3 → τ.1 7 b = σ.1 7 b) ∧ (∀ i, i < wid bs → τ.1 22 i = σ.1 22 i) ∧ τ.1 4 7 = σ.1 4 7
theorem fm_mono {α : Type} (F : Nat → List α) {a b : Nat} (h : a ≤ b) : ((List.range a).flatMap F).length ≤ ((List.range b).flatMap F).length := by
  obtain ⟨c, rfl⟩ := Nat.le.dest h
  induction c with
  | zero => exact Nat.le_refl _
  | succ c ih =>
    rw [← Nat.add_assoc, List.range_succ, List.flatMap_append, List.length_append]
    have := ih (by omega)
    omega
theorem fm_succ {α : Type} (F : Nat → List α) (a : Nat) : (List.range (a + 1)).flatMap F = (List.range a).flatMap F ++ F a := by
  rw [List.range_succ, List.flatMap_append]; simp
theorem nets_app (bs : Blk) (b : Nat × Nat) : nets (bs ++ [b]) = nstep (nets bs) b := by
  unfold nets; rw [List.foldl_append]; rfl
theorem grow_ok (N : Nat) (hN : 512 < N) {d ar : Nat → Nat} (hb : dab d ar) {W ks t : Nat} (hW : W ≤ 6) (hks : ks < 16) (ht : t < 1000000) : ∀ (f : Nat) (bs : Blk) (σ : Wd) (n : Nat) (den : Nat → Nat) (s : SSt),
    CLS σ n den (nets bs) → VB bs → wid bs ≤ W → W < wid bs + f → n ≤ 27 + 16 * wid bs → DA σ d ar → SR σ s → s.1 + (cand W ks f bs).length < 1000000000 → σ.1 7 5 = nI W → σ.1 7 6 = nI ks → σ.1 7 7 = nI t →
    ∃ τ, f_X4_grow N f (lN (bcode bs)) (nI bs.length) σ = some τ ∧ GRO σ τ n den d ar bs ((cand W ks f bs).foldl (weighS d ar t) s)
  | 0, bs, σ, n, den, s, H, V, h1, h2, h3, hD, hS, hs, hw5, hk6, ht7 => by omega
  | f + 1, bs, σ, n, den, s, H, V, h1, h2, h3, hD, hS, hs, hw5, hk6, ht7 => by
    have hwid := V.2.2
    have h46 := H.2.1
    rw [nets_1] at h46
    unfold f_X4_grow
    rw [hw5, h46]
    by_cases hfin : W ≤ wid bs
    · have hcand : cand W ks (f + 1) bs = [bs] := by rw [cand, if_pos hfin]
      rw [hcand] at hs ⊢
      rw [if_pos ((nLe (by omega) (by omega)).mpr hfin)]
      obtain ⟨τ, e, F, S, hb7⟩ := weigh_ok N hN H V hD hb hS (by simp at hs; omega) ht7 ht
      rw [e, obind]
      exact ⟨τ, rfl, H.fr F (by decide), F.mo (by decide), S, hb7, fun i _ => F.i (by decide) i, F.i (by decide) 7⟩
    · have hlen := len_wid (bs := bs) (fun b hb => (V.2.1 b hb).2.1)
      rw [if_neg (fun z => hfin ((nLe (by omega) (by omega)).mp z)), if_pos (show nI bs.length < 6 from (nLt (b := 6) (by omega) (by omega)).mpr (by omega)), nSub (by omega), show (3 : Int32) = nI 3 from rfl, min_ok N (by omega) (by omega), obind]
      dsimp only
      have hcand : cand W ks (f + 1) bs = (List.range 4).flatMap fun k => (List.range (if ks / 2 ^ k % 2 = 1 then min 3 (W - wid bs) else 0)).flatMap fun b => cand W ks f (bs ++ [(k, b + 1)]) := by rw [cand, if_neg hfin]
      rw [hcand] at hs ⊢
      have h45 : σ.1 4 5 = nI n := by obtain ⟨kd, l, r, nw, bf, q⟩ := H.1; exact q.2.2.1
      rw [h45]
      have key := lp_up (g := fun fu i σ' => f_X4_grow_L60 N (f_X4_grow N f) (f_X4_grow_J147 N (f_X4_grow N f)) fu (lN (bcode bs)) (nI bs.length) (nI n) (nI (wid bs)) (σ.1 4 7) (nI (min 3 (W - wid bs))) (nI i) σ') (E := fun σ' => f_X4_grow_J147 N (f_X4_grow N f) σ') (P := fun i τ => GRO σ τ n den d ar bs (((List.range i).flatMap fun k => (List.range (if ks / 2 ^ k % 2 = 1 then min 3 (W - wid bs) else 0)).flatMap fun b => cand W ks f (bs ++ [(k, b + 1)])).foldl (weighS d ar t) s)) (m := 4) ?_ (fun fu τ hP => by
        simp (disch := omega) only [f_X4_grow_L60, L3, nLt, show 3 < 4 from by omega, if_true]) 4 N 0 σ (by omega) (by omega) ⟨H, Fr.rf _ σ, hS, fun _ _ _ _ => rfl, fun _ _ => rfl, rfl⟩
      · obtain ⟨τ, G, e⟩ := key
        exact ⟨τ, e, G⟩
      · intro fu i τ hi hP
        have hle : ¬ 3 < i := by omega
        have h76 := (hP.2.2.2.1 6 (by decide) (by decide) (by decide)).trans hk6
        have hm1 := fm_mono (fun k => (List.range (if ks / 2 ^ k % 2 = 1 then min 3 (W - wid bs) else 0)).flatMap fun b => cand W ks f (bs ++ [(k, b + 1)])) (show i + 1 ≤ 4 by omega)
        rw [fm_succ] at hm1 ⊢
        have hin : ∃ τ', GRO σ τ' n den d ar bs ((((List.range i).flatMap fun k => (List.range (if ks / 2 ^ k % 2 = 1 then min 3 (W - wid bs) else 0)).flatMap fun b => cand W ks f (bs ++ [(k, b + 1)])) ++ (List.range (if ks / 2 ^ i % 2 = 1 then min 3 (W - wid bs) else 0)).flatMap fun b => cand W ks f (bs ++ [(i, b + 1)])).foldl (weighS d ar t) s) ∧
            f_X4_grow_L90 N (f_X4_grow N f) (f_X4_grow_J141 N (f_X4_grow N f) (f_X4_grow_L60 N (f_X4_grow N f) (f_X4_grow_J147 N (f_X4_grow N f)) fu) (f_X4_grow_J147 N (f_X4_grow N f))) N (lN (bcode bs)) (nI bs.length) (nI n) (nI (wid bs)) (σ.1 4 7) (nI (min 3 (W - wid bs))) (nI i) (nI (if ks / 2 ^ i % 2 = 1 then min 3 (W - wid bs) else 0)) 1 τ =
              f_X4_grow_J141 N (f_X4_grow N f) (f_X4_grow_L60 N (f_X4_grow N f) (f_X4_grow_J147 N (f_X4_grow N f)) fu) (f_X4_grow_J147 N (f_X4_grow N f)) (lN (bcode bs)) (nI bs.length) (nI n) (nI (wid bs)) (σ.1 4 7) (nI (min 3 (W - wid bs))) (nI i) τ' := by
          generalize hmi : (if ks / 2 ^ i % 2 = 1 then min 3 (W - wid bs) else 0) = mi at hm1 ⊢
          have hmi3 : mi ≤ 3 ∧ mi ≤ W - wid bs := by rw [← hmi]; split <;> omega
          generalize f_X4_grow_J141 N (f_X4_grow N f) (f_X4_grow_L60 N (f_X4_grow N f) (f_X4_grow_J147 N (f_X4_grow N f)) fu) (f_X4_grow_J147 N (f_X4_grow N f)) = KO
          generalize hOL : ((List.range i).flatMap fun k => (List.range (if ks / 2 ^ k % 2 = 1 then min 3 (W - wid bs) else 0)).flatMap fun b => cand W ks f (bs ++ [(k, b + 1)])) = OL at hP hm1 ⊢
          exact lp_up (g := fun fu j σ' => f_X4_grow_L90 N (f_X4_grow N f) KO fu (lN (bcode bs)) (nI bs.length) (nI n) (nI (wid bs)) (σ.1 4 7) (nI (min 3 (W - wid bs))) (nI i) (nI mi) (nI (j + 1)) σ') (E := fun σ' => KO (lN (bcode bs)) (nI bs.length) (nI n) (nI (wid bs)) (σ.1 4 7) (nI (min 3 (W - wid bs))) (nI i) σ') (P := fun j τ => GRO σ τ n den d ar bs ((OL ++ (List.range j).flatMap fun b => cand W ks f (bs ++ [(i, b + 1)])).foldl (weighS d ar t) s)) (m := mi) (fun fu j τ hj hP => by
              obtain ⟨C, F, S, c7, c22, c47⟩ := hP
              have hle : ¬ mi < j + 1 := by omega
              have hm2 := fm_mono (fun b => cand W ks f (bs ++ [(i, b + 1)])) (show j + 1 ≤ mi by omega)
              rw [fm_succ] at hm2 ⊢
              simp only [List.length_append] at hm1 hm2 hs
              obtain ⟨τ1, n1, d1, e1, C1, X1, F1, s1⟩ := lay_ok N (by omega) C hi (show 1 ≤ j + 1 by omega) (by omega) (by rw [nets_1]; omega) (by omega)
              rw [← nets_app] at C1
              have hwa := wid_app bs (i, j + 1)
              dsimp only at hwa
              have V2 := V.app hi (show 1 ≤ j + 1 by omega) (show j + 1 ≤ 6 by omega) (by omega)
              have hln : nI bs.length + 1 = nI (bs ++ [(i, j + 1)]).length := by rw [nI_1, List.length_append]; rfl
              have F01 := F.tr (F1.fr.mo (by decide : ∀ a, a ∈ [4, 18, 19, 20, 22, 23, 24, 26, 27, 28, 29] → a ∈ growC))
              have hX1 := X1.2.2.1
              have c7' : ∀ b, b ≠ 1 → b ≠ 2 → b ≠ 3 → τ1.1 7 b = σ.1 7 b := fun b b1 b2 b3 => (F1.fr.i (by decide) b).trans (c7 b b1 b2 b3)
              have hfs := foldS_1 d ar t (OL ++ (List.range j).flatMap fun b => cand W ks f (bs ++ [(i, b + 1)])) s
              simp only [List.length_append] at hfs
              obtain ⟨τ2, e2, C2, F2, S2, d7, d22, d47⟩ := grow_ok N hN hb hW hks ht f (bs ++ [(i, j + 1)]) τ1 n1 d1 _ C1 V2 (by omega) (by omega) (by omega) (hD.fr F01 (by decide) (by decide)) (S.fr F1.fr (by decide)) (by omega) ((c7' 5 (by decide) (by decide) (by decide)).trans hw5) ((c7' 6 (by decide) (by decide) (by decide)).trans hk6) ((c7' 7 (by decide) (by decide) (by decide)).trans ht7)
              obtain ⟨τ3, e3, C3, F3, g47⟩ := cutBack_ok N hN C (n' := n1) (den' := d1) (m := 16 * (j + 1)) ⟨C2.1, X1.2⟩ (σ' := τ2) (fun q hq => by
                rw [d22 q (by rw [nets_1] at hq; omega)]; exact s1 q hq)
              rw [nets_1, c47] at e3
              refine ⟨τ3, ⟨C3, (F01.tr F2).tr (F3.mo (by decide)), ?_, fun b b1 b2 b3 => ?_, fun q hq => ?_, g47.trans c47⟩, ?_⟩
              · rw [← List.append_assoc, List.foldl_append]
                exact S2.fr F3 (by decide)
              · rw [F3.i (by decide), d7 b b1 b2 b3, c7' b b1 b2 b3]
              · rw [F3.i (by decide), d22 q (by omega), s1 q (by rw [nets_1]; exact hq), c22 q hq]
              · simp (disch := omega) only [f_X4_grow_L90, nLt, hle, if_false, e1, obind, with_ok N V (show bs.length ≤ 7 by omega) hi (show j + 1 ≤ 6 by omega), hln, e2, e3, nI_1]) (fun fu τ hP => by
              simp (disch := omega) only [f_X4_grow_L90, nLt, show mi < mi + 1 from Nat.lt_succ_self mi, if_true]) mi N 0 τ (by omega) (by omega) (by simpa using hP)
        obtain ⟨τ', G, e⟩ := hin
        refine ⟨τ', G, ?_⟩
        have hbit := bit_1 (a := ks) (i := i) (by omega) (by omega)
        have hb1 : (nI (ks / 2 ^ i % 2) = 1) ↔ ks / 2 ^ i % 2 = 1 := nEq (b := 1) (by omega) (by omega)
        by_cases hc : ks / 2 ^ i % 2 = 1
        · rw [if_pos hc] at e
          simp (disch := omega) only [f_X4_grow_L60, L3, nLt, hle, if_false, h76, hbit, hb1, hc, if_true]
          rw [if_pos (show nI 1 = 1 from rfl)]
          refine Eq.trans e ?_
          simp only [f_X4_grow_J141, nI_1]
        · rw [if_neg hc] at e
          simp (disch := omega) only [f_X4_grow_L60, L3, nLt, hle, if_false, h76, hbit, hb1, hc]
          refine Eq.trans e ?_
          simp only [f_X4_grow_J141, nI_1]
