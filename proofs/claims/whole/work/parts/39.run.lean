/-! The search, kept. -/
noncomputable def aChoose (W ks t : Nat) (d ar : Nat → Nat) : SSt := (cand W ks 9 []).foldl (weighS d ar t) (0, 0, 0, [])
theorem fm_len {α β : Type} (F : α → List β) (c : Nat) : ∀ (l : List α), (∀ x, x ∈ l → (F x).length ≤ c) → (l.flatMap F).length ≤ l.length * c
  | [], _ => Nat.zero_le _
  | x :: l, h => by
    have h1 := h x List.mem_cons_self
    have h2 := fm_len F c l (fun y hy => h y (List.mem_cons_of_mem _ hy))
    rw [List.flatMap_cons, List.length_append, List.length_cons, Nat.succ_mul]
    omega
theorem cand_len (W ks : Nat) : ∀ (f : Nat) (bs : Blk), (cand W ks f bs).length ≤ 12 ^ (W - wid bs)
  | 0, bs => Nat.zero_le _
  | f + 1, bs => by
    rw [cand]
    by_cases h : W ≤ wid bs
    · rw [if_pos h]; exact Nat.one_le_pow _ _ (by decide)
    · rw [if_neg h]
      obtain ⟨R, hR⟩ : ∃ R, W - wid bs = R + 1 := ⟨W - wid bs - 1, by omega⟩
      rw [hR, Nat.pow_succ]
      have key : ∀ k, k ∈ List.range 4 → ((List.range (if ks / 2 ^ k % 2 = 1 then min 3 (R + 1) else 0)).flatMap fun b => cand W ks f (bs ++ [(k, b + 1)])).length ≤ 3 * 12 ^ R := fun k _ => by
        have h1 := fm_len (fun b => cand W ks f (bs ++ [(k, b + 1)])) (12 ^ R) (List.range (if ks / 2 ^ k % 2 = 1 then min 3 (R + 1) else 0)) (fun b _ => by
          refine Nat.le_trans (cand_len W ks f _) (Nat.pow_le_pow_right (by decide) ?_)
          rw [wid_app]
          show W - (wid bs + (b + 1)) ≤ R
          omega)
        refine Nat.le_trans h1 (Nat.mul_le_mul_right _ ?_)
        rw [List.length_range]
        split <;> omega
      have := fm_len _ _ _ key
      rw [List.length_range] at this
      omega
def SRI (σ : Wd) (d ar : Nat → Nat) : Prop := σ.1 7 0 = 0 ∨ (σ.1 7 0 = 1 ∧ ∃ W ks t, W ≤ 6 ∧ ks < 16 ∧ t < 1000000 ∧ σ.1 7 5 = nI W ∧ σ.1 7 6 = nI ks ∧ σ.1 7 7 = nI t ∧ SR σ (aChoose W ks t d ar))
theorem SRI.fr {σ τ : Wd} {ks : List Nat} {d ar : Nat → Nat} (h : SRI σ d ar) (F : Fr ks σ τ) (h7 : 7 ∉ ks) : SRI τ d ar := by
  unfold SRI
  rw [F.i h7, F.i h7, F.i h7, F.i h7]
  exact h.imp id (fun ⟨a, W, k, t, a1, a2, a3, a4, a5, a6, b⟩ => ⟨a, W, k, t, a1, a2, a3, a4, a5, a6, b.fr F h7⟩)
theorem VB_nil : VB [] := ⟨Nat.zero_le _, fun _ h => absurd h List.not_mem_nil, Nat.zero_le _⟩
theorem aChoose_1 (W ks t : Nat) (hW : W ≤ 6) (d ar : Nat → Nat) : (aChoose W ks t d ar).1 < 1000000000 := by
  have h1 := foldS_1 d ar t (cand W ks 9 []) (0, 0, 0, [])
  have h2 := cand_len W ks 9 []
  have h3 : (12 : Nat) ^ (W - wid []) ≤ 12 ^ 6 := Nat.pow_le_pow_right (by decide) (by show W - 0 ≤ 6; omega)
  unfold aChoose
  have h4 : (12 : Nat) ^ 6 = 2985984 := by decide
  dsimp only at h1
  omega
theorem runJ_ok (N : Nat) (hN : 512 < N) {σ : Wd} {d ar : Nat → Nat} (hD : DA σ d ar) (hb : dab d ar) {W ks t : Nat} (hW : W ≤ 6) (hks : ks < 16) (ht : t < 1000000) :
    ∃ τ, f_X4_run_J34 N (nI W) (nI ks) (nI t) σ = some τ ∧ Fr growC σ τ ∧ τ.1 7 0 = 1 ∧ τ.1 7 5 = nI W ∧ τ.1 7 6 = nI ks ∧ τ.1 7 7 = nI t ∧ SR τ (aChoose W ks t d ar) := by
  unfold f_X4_run_J34
  dsimp only
  generalize hσ7 : sG (sF (sF (sF (sF (sF (sF σ 7 5 (nI W)) 7 6 (nI ks)) 7 7 (nI t)) 7 1 0) 7 2 0) 7 3 0) 7 4 0 = σ7
  have F7 : Fr [7] σ σ7 := by
    rw [← hσ7]
    exact ((((((Fr.rf _ σ).F (by decide)).F (by decide)).F (by decide)).F (by decide)).F (by decide)).F (by decide) |>.G (by decide)
  have c5 : σ7.1 7 5 = nI W := by
    rw [← hσ7, sG_1, sF_nb (by decide), sF_nb (by decide), sF_nb (by decide), sF_nb (by decide), sF_nb (by decide), sF_eq]
  have c6 : σ7.1 7 6 = nI ks := by
    rw [← hσ7, sG_1, sF_nb (by decide), sF_nb (by decide), sF_nb (by decide), sF_nb (by decide), sF_eq]
  have c7 : σ7.1 7 7 = nI t := by
    rw [← hσ7, sG_1, sF_nb (by decide), sF_nb (by decide), sF_nb (by decide), sF_eq]
  have S7 : SR σ7 (0, 0, 0, []) := by
    refine ⟨?_, ?_, ?_, ?_, by decide, by decide, VB_nil⟩
    · rw [← hσ7, sG_1, sF_nb (by decide), sF_nb (by decide), sF_eq]; rfl
    · rw [← hσ7, sG_1, sF_nb (by decide), sF_eq]; rfl
    · rw [← hσ7, sG_1, sF_eq]; rfl
    · rw [← hσ7, sG_2, if_pos rfl, if_pos rfl]; rfl
  obtain ⟨τ0, e0, C0, F0⟩ := clear_ok N (by omega) σ7
  rw [e0, obind]
  have F0' := F0.fr
  have hlen : (0 : Nat) + (cand W ks 9 []).length < 1000000000 := by
    have h2 := cand_len W ks 9 []
    have h3 : (12 : Nat) ^ (W - wid []) ≤ 12 ^ 6 := Nat.pow_le_pow_right (by decide) (by show W - 0 ≤ 6; omega)
    have h4 : (12 : Nat) ^ 6 = 2985984 := by decide
    omega
  obtain ⟨τ, e, C, F, S, q7, -⟩ := grow_ok N hN hb hW hks ht 9 [] τ0 27 lfC (0, 0, 0, []) C0 VB_nil (Nat.zero_le _) (by show W < 0 + 9; omega) (by show 27 ≤ 27 + 16 * 0; omega) ((hD.fr F7 (by decide) (by decide)).fr F0' (by decide) (by decide)) (S7.fr F0' (by decide)) hlen ((F0'.i (by decide) 5).trans c5) ((F0'.i (by decide) 6).trans c6) ((F0'.i (by decide) 7).trans c7)
  have e' : f_X4_grow N 9 0 0 τ0 = some τ := e
  rw [e', obind]
  refine ⟨_, rfl, (((F7.mo (by decide)).tr (F0'.mo (by decide))).tr F).F (by decide), sF_eq, ?_, ?_, ?_, ?_⟩
  · rw [sF_nb (by decide), q7 5 (by decide) (by decide) (by decide), F0'.i (by decide), c5]
  · rw [sF_nb (by decide), q7 6 (by decide) (by decide) (by decide), F0'.i (by decide), c6]
  · rw [sF_nb (by decide), q7 7 (by decide) (by decide) (by decide), F0'.i (by decide), c7]
  · obtain ⟨h1, h2, h3, h4, h5⟩ := S
    exact ⟨by rw [sF_nb (by decide)]; exact h1, by rw [sF_nb (by decide)]; exact h2, by rw [sF_nb (by decide)]; exact h3, by rw [sF_2]; exact h4, h5⟩
theorem run_ok (N : Nat) (hN : 512 < N) {σ : Wd} {d ar : Nat → Nat} (hD : DA σ d ar) (hb : dab d ar) (hI : SRI σ d ar) {W ks t : Nat} (hW : W ≤ 6) (hks : ks < 16) (ht : t < 1000000) :
    ∃ τ, f_X4_run N (nI W) (nI ks) (nI t) σ = some τ ∧ Fr growC σ τ ∧ SR τ (aChoose W ks t d ar) ∧ SRI τ d ar := by
  have fin : ∀ τ, f_X4_run_J34 N (nI W) (nI ks) (nI t) σ = some τ → Fr growC σ τ ∧ τ.1 7 0 = 1 ∧ τ.1 7 5 = nI W ∧ τ.1 7 6 = nI ks ∧ τ.1 7 7 = nI t ∧ SR τ (aChoose W ks t d ar) → ∃ τ, f_X4_run_J34 N (nI W) (nI ks) (nI t) σ = some τ ∧ Fr growC σ τ ∧ SR τ (aChoose W ks t d ar) ∧ SRI τ d ar :=
    fun τ e ⟨h1, h2, h3, h4, h5, h6⟩ => ⟨τ, e, h1, h6, Or.inr ⟨h2, W, ks, t, hW, hks, ht, h3, h4, h5, h6⟩⟩
  obtain ⟨τ, e, hq⟩ := runJ_ok N hN hD hb hW hks ht
  have fin := fin τ e hq
  unfold f_X4_run
  rcases hI with h0 | ⟨h0, W', ks', t', a1, a2, a3, a4, a5, a6, S⟩
  · rw [if_pos h0]; exact fin
  · rw [if_neg (by rw [h0]; decide), a4, a5, a6]
    by_cases c1 : W' = W
    · rw [if_pos (by rw [c1])]
      by_cases c2 : ks' = ks
      · rw [if_pos (by rw [c2])]
        by_cases c3 : t' = t
        · rw [if_pos (by rw [c3])]
          subst c1; subst c2; subst c3
          exact ⟨σ, rfl, Fr.rf _ σ, S, Or.inr ⟨h0, _, _, _, a1, a2, a3, a4, a5, a6, S⟩⟩
        · rw [if_neg (neN (by omega) (by omega) c3)]; exact fin
      · rw [if_neg (neN (by omega) (by omega) c2)]; exact fin
    · rw [if_neg (neN (by omega) (by omega) c1)]; exact fin
