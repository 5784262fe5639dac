section
/-! The search of the reference. -/
theorem gcnt_bd {σ : Wd} {n : Nat} {kd l r den oz d ar : Nat → Nat} {bs : Blk} (H : LDp σ n kd l r den oz bs d ar) (k : Option Nat) : gcnt (OUT bs) k ≤ 2048 := by
  classical
  obtain ⟨HN, HO, HD, -⟩ := H
  obtain ⟨f, hf⟩ : ∃ f : Nat → Bool, ∀ j, f j = true ↔ (j < n ∧ ∃ o, o < n ∧ (∃ i, i < wid bs + 1 ∧ o = oz i) ∧ sub (den j) (den o)) ∧ ∀ q, k = some q → kd j = q := ⟨fun j => decide ((j < n ∧ ∃ o, o < n ∧ (∃ i, i < wid bs + 1 ∧ o = oz i) ∧ sub (den j) (den o)) ∧ ∀ q, k = some q → kd j = q), fun j => decide_eq_true_iff⟩
  rw [← outs_eq (n := n) HD, mgcnt_eq HN.1 HO.2.2.2 hf]
  exact Nat.le_trans (cntB_le f n) HN.2.1
def MSR (σ : Wd) (s : SSt) : Prop := σ.1 41 38 = nI s.1 ∧ σ.1 41 35 = nI s.2.2.2.length ∧ (s.1 = 0 ↔ s.2.2.2 = []) ∧ s.2.1 < 1000000 ∧ s.2.2.1 < 1000000 ∧ VB s.2.2.2 ∧ (s.1 ≠ 0 → σ.1 41 36 = nI s.2.1 ∧ σ.1 41 37 = nI s.2.2.1 ∧ MRow σ 64 0 s.2.2.2)
theorem MSR.fr {σ τ : Wd} {ks fs : List Nat} {s : SSt} (h : MSR σ s) (F : FrM ks fs σ τ) (h1 : 35 ∉ fs) (h2 : 36 ∉ fs) (h3 : 37 ∉ fs) (h4 : 38 ∉ fs) (h5 : 64 ∉ ks) : MSR τ s := by
  obtain ⟨a, b, c, d, e, f, g⟩ := h
  exact ⟨by rw [F.m h4]; exact a, by rw [F.m h1]; exact b, c, d, e, f, fun z => ⟨by rw [F.m h2]; exact (g z).1, by rw [F.m h3]; exact (g z).2.1, (g z).2.2.fr F h5 (by decide)⟩⟩
def srcC : List Nat := [53, 54, 55, 56, 57, 59, 60, 61, 62, 63, 64]
def srcF : List Nat := [27, 28, 35, 36, 37, 38]
theorem judges_ok (N : Nat) (hN : 2048 < N) {bs : Blk} (V : VB bs) (hbs : bs ≠ []) {σ : Wd} (hrow : MRow σ 63 0 bs) {d ar : Nat → Nat} (hD : MDA σ d ar) (hb : dab d ar) {s : SSt} (hS : MSR σ s) (hs : s.1 < 1000000000) {t : Nat} (ht : t < 1000000) :
    ∃ τ, f_X10_judges N (nI bs.length) (nI t) σ = some τ ∧ MSR τ (weighS d ar t s bs) ∧ MRow τ 63 0 bs ∧ FrM [53, 54, 55, 56, 57, 59, 60, 61, 62, 64] srcF σ τ := by
  have hV := V.1
  obtain ⟨τ1, n, kd, l, r, den, oz, e1, H1, F1⟩ := mlays_ok N hN V hrow (by decide) (by decide) (L := 8) (by omega) (by decide) hD hb
  obtain ⟨e2, hlt⟩ := m_last N hN H1
  have e3 := m_gates N hN H1 (k := none) (fun q hq => by cases hq)
  have hgb := gcnt_bd H1 none
  have S1 := hS.fr F1 (by decide) (by decide) (by decide) (by decide) (by decide)
  have R1 := hrow.fr F1 (by decide) (by decide)
  have hlen : bs.length ≠ 0 := fun z => hbs (List.eq_nil_of_length_eq_zero z)
  have F1' : FrM [53, 54, 55, 56, 57, 59, 60, 61, 62, 64] srcF σ τ1 := F1.mo (by decide) (by decide)
  unfold f_X10_judges
  rw [show (0 : Int32) = nI 0 from rfl, e1, obind, e2, obind, show (-1 : Int32) = kindI none from rfl, e3, obind]
  dsimp only
  obtain ⟨s1, s2, s3, s4, s5, s6, s7⟩ := S1
  rw [s1]
  have hag : gcnt (OUT bs) none = aGates bs := rfl
  rw [hag] at hgb ⊢
  unfold weighS
  by_cases ct : t < aLast bs d ar
  · rw [if_pos ((nLt (by omega) (by omega)).mpr ct), if_neg (by omega)]
    unfold f_X10_judges_J38 f_X10_judges_J108
    dsimp only
    rw [if_pos ((nLt (by omega) (by omega)).mpr ct), nI_add]
    refine ⟨_, rfl, ⟨sF_eq, by rw [sF_nb (by decide)]; exact s2, s3, s4, s5, s6, fun z => ⟨by rw [sF_nb (by decide)]; exact (s7 z).1, by rw [sF_nb (by decide)]; exact (s7 z).2.1, fun i b hi => by rw [sF_ne (by decide)]; exact (s7 z).2.2 i b hi⟩⟩, fun i b hi => by rw [sF_ne (by decide)]; exact R1 i b hi, F1'.D (by decide)⟩
  · rw [if_neg (fun z => ct ((nLt (by omega) (by omega)).mp z)), if_pos (by omega)]
    unfold f_X10_judges_J38
    dsimp only
    rw [if_neg (fun z => ct ((nLt (by omega) (by omega)).mp z)), show (1 : Int32) = nI 1 from rfl, nI_add, sF_nb (by decide), sF_nb (by decide), s2]
    have F2 := F1'.D (n := 38) (x := nI (s.1 + 1)) (by decide)
    have j63 : ∃ τ, f_X10_judges_J63 N (nI bs.length) (nI (aLast bs d ar)) (nI (aGates bs)) (sF τ1 41 38 (nI (s.1 + 1))) = some τ ∧ MSR τ (s.1 + 1, aGates bs, aLast bs d ar, bs) ∧ MRow τ 63 0 bs ∧ FrM [53, 54, 55, 56, 57, 59, 60, 61, 62, 64] srcF σ τ := by
      unfold f_X10_judges_J63
      dsimp only
      obtain ⟨τ, ⟨F, hq, hc⟩, e⟩ := lp_up (g := fun fu i s => f_X10_judges_L82 N (f_X10_judges_J108 N) fu (nI bs.length) (nI i) s) (E := fun s => f_X10_judges_J108 N s) (P := fun i τ => FrM [53, 54, 55, 56, 57, 59, 60, 61, 62, 64] srcF σ τ ∧ (τ.1 41 38 = nI (s.1 + 1) ∧ τ.1 41 35 = nI bs.length ∧ τ.1 41 36 = nI (aGates bs) ∧ τ.1 41 37 = nI (aLast bs d ar) ∧ MRow τ 63 0 bs) ∧ ∀ j b, j < i → bs[j]? = some b → τ.1 64 j = nI (10 * b.1 + b.2)) (m := bs.length) (fun fu i τ hi ⟨F, ⟨q1, q2, q3, q4, q5⟩, hc⟩ => by
          have hp : bs[i]? = some bs[i] := List.getElem?_eq_getElem hi
          have hr := q5 i _ hp
          rw [Nat.zero_add] at hr
          refine ⟨sF τ 64 i (nI (10 * bs[i].1 + bs[i].2)), ⟨F.F (by decide) (by decide), ⟨by rw [sF_ne (by decide)]; exact q1, by rw [sF_ne (by decide)]; exact q2, by rw [sF_ne (by decide)]; exact q3, by rw [sF_ne (by decide)]; exact q4, fun j b hj => by rw [sF_ne (by decide)]; exact q5 j b hj⟩, fun j b hj hb2 => ?_⟩, ?_⟩
          · by_cases hji : j = i
            · subst hji
              rw [sF_eq]
              rw [hp] at hb2
              cases hb2; rfl
            · rw [sF_nb hji]; exact hc j b (by omega) hb2
          · rw [f_X10_judges_L82, if_neg (fun z => by have := (nLe (by omega) (by omega)).mp z; omega), xld_n (by omega) (by omega), obind, hr, xst_n (by omega) (by omega), obind, nI_1]) (fun fu τ hP => by
          rw [f_X10_judges_L82, if_pos ((nLe (by omega) (by omega)).mpr (Nat.le_refl _))]) bs.length N 0 (sF (sF (sF (sF τ1 41 38 (nI (s.1 + 1))) 41 35 (nI bs.length)) 41 36 (nI (aGates bs))) 41 37 (nI (aLast bs d ar))) (by omega) (by omega) ⟨((F2.D (by decide)).D (by decide)).D (by decide), ⟨by rw [sF_nb (by decide), sF_nb (by decide), sF_nb (by decide), sF_eq], by rw [sF_nb (by decide), sF_nb (by decide), sF_eq], by rw [sF_nb (by decide), sF_eq], sF_eq, fun j b hj => by rw [sF_ne (by decide), sF_ne (by decide), sF_ne (by decide), sF_ne (by decide)]; exact R1 j b hj⟩, fun j b hj => absurd hj (Nat.not_lt_zero j)⟩
      obtain ⟨q1, q2, q3, q4, q5⟩ := hq
      refine ⟨τ, e, ⟨q1, q2, ?_, by show aGates bs < 1000000; omega, hlt, V, fun _ => ⟨q3, q4, fun i b hi => ?_⟩⟩, q5, F⟩
      · exact ⟨fun z => absurd z (Nat.succ_ne_zero _), fun z => absurd z hbs⟩
      · rw [Nat.zero_add]; exact hc i b (List.getElem?_eq_some_iff.mp hi).1 hi
    by_cases c0 : s.1 = 0
    · rw [if_pos (Or.inl c0)]
      have h0 : s.2.2.2 = [] := s3.mp c0
      rw [h0, if_pos (show nI ([] : Blk).length = 0 from rfl)]
      exact j63
    · obtain ⟨g1, g2, g3⟩ := s7 c0
      have hl2 : s.2.2.2.length ≠ 0 := fun z => c0 (s3.mpr (List.eq_nil_of_length_eq_zero z))
      have := s6.1
      rw [if_neg (show ¬ nI s.2.2.2.length = 0 from neN (b := 0) (by omega) (by omega) hl2), g1]
      by_cases c1 : s.2.1 ≤ aGates bs
      · rw [if_pos ((nLe (by omega) (by omega)).mpr c1), if_neg (show ¬ (s.1 = 0 ∨ aGates bs < s.2.1) from fun z => z.elim c0 (fun z => by omega))]
        unfold f_X10_judges_J108
        refine ⟨_, rfl, ⟨sF_eq, by rw [sF_nb (by decide)]; exact s2, ⟨fun z => absurd z (Nat.succ_ne_zero _), fun z => absurd (s3.mpr z) c0⟩, s4, s5, s6, fun _ => ⟨by rw [sF_nb (by decide)]; exact g1, by rw [sF_nb (by decide)]; exact g2, fun i b hi => by rw [sF_ne (by decide)]; exact g3 i b hi⟩⟩, fun i b hi => by rw [sF_ne (by decide)]; exact R1 i b hi, F2⟩
      · rw [if_neg (fun z => c1 ((nLe (by omega) (by omega)).mp z)), if_pos (show s.1 = 0 ∨ aGates bs < s.2.1 from Or.inr (by omega))]
        exact j63
theorem MRow.pre {σ : Wd} {K base : Nat} {bs : Blk} {b : Nat × Nat} (h : MRow σ K base (bs ++ [b])) : MRow σ K base bs := fun i c hc => by
  have hi := (List.getElem?_eq_some_iff.mp hc).1
  exact h i c (by rw [List.getElem?_append_left hi]; exact hc)
theorem MRow.ext {σ : Wd} {K : Nat} {bs : Blk} {b : Nat × Nat} (h : MRow σ K 0 bs) : MRow (sF σ K bs.length (nI (10 * b.1 + b.2))) K 0 (bs ++ [b]) := fun i c hc => by
  rw [getE_app] at hc
  rw [Nat.zero_add]
  by_cases hi : i = bs.length
  · rw [if_pos hi] at hc
    cases hc
    rw [hi, sF_eq]
  · rw [if_neg hi] at hc
    rw [sF_nb hi]
    have := h i c hc
    rw [Nat.zero_add] at this
    exact this
theorem mgrow_ok (N : Nat) (hN : 2048 < N) {d ar : Nat → Nat} (hb : dab d ar) {W ks t : Nat} (hW1 : 1 ≤ W) (hW : W ≤ 6) (hks : ks < 16) (ht : t < 1000000) : ∀ (f : Nat) (bs : Blk) (σ : Wd) (s : SSt),
    VB bs → wid bs ≤ W → W < wid bs + f → MRow σ 63 0 bs → MDA σ d ar → MSR σ s → s.1 + (cand W ks f bs).length < 1000000000 →
    ∃ τ, f_X10_goesOn N f (nI bs.length) (nI (W - wid bs)) (nI ks) (nI t) σ = some τ ∧ MSR τ ((cand W ks f bs).foldl (weighS d ar t) s) ∧ MRow τ 63 0 bs ∧ FrM srcC srcF σ τ
  | 0, bs, σ, s, V, h1, h2, hR, hD, hS, hs => by omega
  | f + 1, bs, σ, s, V, h1, h2, hR, hD, hS, hs => by
    have hwid := V.2.2
    have hlen := len_wid (bs := bs) (fun b hb => (V.2.1 b hb).2.1)
    rw [f_X10_goesOn]
    by_cases hfin : W ≤ wid bs
    · have hcand : cand W ks (f + 1) bs = [bs] := by rw [cand, if_pos hfin]
      rw [hcand] at hs ⊢
      have hne : bs ≠ [] := fun z => by rw [z] at hfin; have : wid [] = 0 := rfl; omega
      rw [if_pos (show nI (W - wid bs) = 0 by rw [show W - wid bs = 0 by omega]; rfl)]
      obtain ⟨τ, e, S, R, F⟩ := judges_ok N hN V hne hR hD hb hS (by simp at hs; omega) ht
      rw [e, obind]
      exact ⟨τ, rfl, S, R, F.mo (by decide) (fun a h => h)⟩
    · rw [if_neg (show ¬ nI (W - wid bs) = 0 from neN (b := 0) (by omega) (by omega) (by omega))]
      have hcand : cand W ks (f + 1) bs = (List.range 4).flatMap fun k => (List.range (if ks / 2 ^ k % 2 = 1 then min 3 (W - wid bs) else 0)).flatMap fun b => cand W ks f (bs ++ [(k, b + 1)]) := by rw [cand, if_neg hfin]
      rw [hcand] at hs ⊢
      have key := lp_up (g := fun fu i σ' => f_X10_goesOn_L15 N (f_X10_goesOn N f) (f_X10_goesOn_J85 N (f_X10_goesOn N f)) fu (nI bs.length) (nI (W - wid bs)) (nI ks) (nI t) (nI i) σ') (E := fun σ' => f_X10_goesOn_J85 N (f_X10_goesOn N f) σ') (P := fun i τ => MSR τ (((List.range i).flatMap fun k => (List.range (if ks / 2 ^ k % 2 = 1 then min 3 (W - wid bs) else 0)).flatMap fun b => cand W ks f (bs ++ [(k, b + 1)])).foldl (weighS d ar t) s) ∧ MRow τ 63 0 bs ∧ FrM srcC srcF σ τ) (m := 4) ?_ (fun fu τ hP => by
        rw [f_X10_goesOn_L15, if_pos (show (4 : Int32) ≤ nI 4 from (nLe (a := 4) (by omega) (by omega)).mpr (Nat.le_refl _))]) 4 N 0 σ (by omega) (by omega) ⟨hS, hR, FrM.rf _ _ σ⟩
      · obtain ⟨τ, G, e⟩ := key
        exact ⟨τ, e, G⟩
      · intro fu i τ hi hP
        have hm1 := fm_mono (fun k => (List.range (if ks / 2 ^ k % 2 = 1 then min 3 (W - wid bs) else 0)).flatMap fun b => cand W ks f (bs ++ [(k, b + 1)])) (show i + 1 ≤ 4 by omega)
        rw [fm_succ] at hm1 ⊢
        rw [f_X10_goesOn_L15, if_neg (show ¬ (4 : Int32) ≤ nI i from fun z => by have := (nLe (a := 4) (by omega) (by omega)).mp z; omega)]
        have hbit := bit_1 (a := ks) (i := i) (by omega) (by omega)
        have hkb := Nat.mod_lt (ks / 2 ^ i) (show 2 > 0 by omega)
        generalize hmi : (if ks / 2 ^ i % 2 = 1 then min 3 (W - wid bs) else 0) = mi at hm1 ⊢
        have hmi3 : mi ≤ 3 := by rw [← hmi]; split <;> omega
        generalize hOL : ((List.range i).flatMap fun k => (List.range (if ks / 2 ^ k % 2 = 1 then min 3 (W - wid bs) else 0)).flatMap fun b => cand W ks f (bs ++ [(k, b + 1)])) = OL at hP hm1 ⊢
        have hin := lp_up (g := fun f2 j σ' => f_X10_goesOn_L24 N (f_X10_goesOn N f) (f_X10_goesOn_J79 N (f_X10_goesOn N f) (f_X10_goesOn_L15 N (f_X10_goesOn N f) (f_X10_goesOn_J85 N (f_X10_goesOn N f)) fu) (f_X10_goesOn_J85 N (f_X10_goesOn N f))) f2 (nI bs.length) (nI (W - wid bs)) (nI ks) (nI t) (nI i) (nI (j + 1)) σ') (E := fun σ' => f_X10_goesOn_J79 N (f_X10_goesOn N f) (f_X10_goesOn_L15 N (f_X10_goesOn N f) (f_X10_goesOn_J85 N (f_X10_goesOn N f)) fu) (f_X10_goesOn_J85 N (f_X10_goesOn N f)) (nI bs.length) (nI (W - wid bs)) (nI ks) (nI t) (nI i) σ') (P := fun j τ => MSR τ ((OL ++ (List.range j).flatMap fun b => cand W ks f (bs ++ [(i, b + 1)])).foldl (weighS d ar t) s) ∧ MRow τ 63 0 bs ∧ FrM srcC srcF σ τ) (m := mi) (fun f2 j τ hj ⟨S, R, F⟩ => by
            have hbt : ks / 2 ^ i % 2 = 1 := by
              by_cases c : ks / 2 ^ i % 2 = 1
              · exact c
              · rw [if_neg c] at hmi; omega
            rw [if_pos hbt] at hmi
            have hm2 := fm_mono (fun b => cand W ks f (bs ++ [(i, b + 1)])) (show j + 1 ≤ mi by omega)
            rw [fm_succ] at hm2 ⊢
            simp only [List.length_append] at hm1 hm2 hs
            have hwa := wid_app bs (i, j + 1)
            dsimp only at hwa
            have V2 := V.app hi (show 1 ≤ j + 1 by omega) (show j + 1 ≤ 6 by omega) (by omega)
            have hfs := foldS_1 d ar t (OL ++ (List.range j).flatMap fun b => cand W ks f (bs ++ [(i, b + 1)])) s
            simp only [List.length_append] at hfs
            have F1 : FrM srcC srcF σ (sF τ 63 bs.length (nI (10 * i + (j + 1)))) := F.F (by decide) (by decide)
            have S1 : MSR (sF τ 63 bs.length (nI (10 * i + (j + 1)))) ((OL ++ (List.range j).flatMap fun b => cand W ks f (bs ++ [(i, b + 1)])).foldl (weighS d ar t) s) := S.fr ((FrM.rf [63] [] τ).F (by decide) (by decide)) (by decide) (by decide) (by decide) (by decide) (by decide)
            obtain ⟨τ2, e2, S2, R2, F2⟩ := mgrow_ok N hN hb hW1 hW hks ht f (bs ++ [(i, j + 1)]) (sF τ 63 bs.length (nI (10 * i + (j + 1)))) _ V2 (by omega) (by omega) (R.ext (b := (i, j + 1))) (hD.fr F1 (by decide) (by decide)) S1 (by omega)
            refine ⟨τ2, ⟨?_, R2.pre, F1.tr F2⟩, ?_⟩
            · rw [← List.append_assoc, List.foldl_append]; exact S2
            · rw [f_X10_goesOn_L24, if_neg (show ¬ (3 : Int32) < nI (j + 1) from fun z => by have := (nLt (a := 3) (by omega) (by omega)).mp z; omega), if_neg (fun z => by have := (nLt (by omega) (by omega)).mp z; omega)]
              unfold f_X10_has
              have hln : nI bs.length + 1 = nI (bs ++ [(i, j + 1)]).length := by rw [nI_1, List.length_append]; rfl
              rw [hbit, hbt, if_pos (show nI 1 = 1 from rfl), obind]
              dsimp only
              rw [if_neg (show ¬ (1 : Int32) = 0 by decide), show (10 : Int32) * nI i = nI (10 * i) from nMulL 10 i, nI_add, xst_n (by omega) (by omega), obind, hln, nSub (by omega), show W - wid bs - (j + 1) = W - wid (bs ++ [(i, j + 1)]) by omega, e2, obind, nI_1]) (fun f2 τ hP => by
            rw [f_X10_goesOn_L24]
            by_cases c3 : 3 < mi + 1
            · rw [if_pos (show (3 : Int32) < nI (mi + 1) from (nLt (a := 3) (by omega) (by omega)).mpr c3)]
            · rw [if_neg (show ¬ (3 : Int32) < nI (mi + 1) from fun z => c3 ((nLt (a := 3) (by omega) (by omega)).mp z))]
              by_cases c4 : W - wid bs < mi + 1
              · rw [if_pos ((nLt (by omega) (by omega)).mpr c4)]
              · rw [if_neg (fun z => c4 ((nLt (by omega) (by omega)).mp z))]
                have hbt : ks / 2 ^ i % 2 = 0 := by
                  by_cases c : ks / 2 ^ i % 2 = 1
                  · rw [if_pos c] at hmi; omega
                  · omega
                unfold f_X10_has
                rw [hbit, hbt, if_neg (show ¬ nI 0 = 1 by decide), obind]
                dsimp only
                rw [if_pos rfl]) mi N 0 τ (by rw [← hmi]; split <;> omega) (by rw [← hmi]; split <;> omega) (by simpa using hP)
        obtain ⟨τ', G, e⟩ := hin
        exact ⟨τ', G, e.trans (by unfold f_X10_goesOn_J79; rw [nI_1])⟩
theorem mchooses_ok (N : Nat) (hN : 2048 < N) {d ar : Nat → Nat} (hb : dab d ar) {W ks t : Nat} (hW1 : 1 ≤ W) (hW : W ≤ 6) (hks : ks < 16) (ht : t < 1000000) {σ : Wd} (hD : MDA σ d ar) : ∃ τ, f_X10_chooses N (nI W) (nI ks) (nI t) σ = some τ ∧ MSR τ (aChoose W ks t d ar) ∧ FrM srcC srcF σ τ := by
  unfold f_X10_chooses
  dsimp only
  have F0 : FrM srcC srcF σ (sF (sF σ 41 35 0) 41 38 0) := ((FrM.rf _ _ σ).D (by decide)).D (by decide)
  have h2 := cand_len W ks 9 []
  have h3 : (12 : Nat) ^ (W - wid []) ≤ 12 ^ 6 := Nat.pow_le_pow_right (by decide) (by show W - 0 ≤ 6; omega)
  have h4 : (12 : Nat) ^ 6 = 2985984 := by decide
  obtain ⟨τ, e, S, R, F⟩ := mgrow_ok N hN hb hW1 hW hks ht 9 [] (sF (sF σ 41 35 0) 41 38 0) (0, 0, 0, []) VB_nil (Nat.zero_le _) (by show W < 0 + 9; omega) (fun i b h => by simp at h) (hD.fr F0 (by decide) (by decide)) ⟨sF_eq, by rw [sF_nb (by decide), sF_eq]; rfl, ⟨fun _ => rfl, fun _ => rfl⟩, by decide, by decide, VB_nil, fun z => absurd rfl z⟩ (by show 0 + _ < _; omega)
  have e' : f_X10_goesOn N 9 0 (nI W) (nI ks) (nI t) (sF (sF σ 41 35 0) 41 38 0) = some τ := e
  rw [e', obind]
  exact ⟨τ, rfl, S, F0.tr F⟩
end
