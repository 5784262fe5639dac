section
/-! Texts, plans, what is known: the reference. -/
theorem blk_loop (N : Nat) (hN : 2048 < N) {σ0 : Wd} {T : Txt} (h : MTp σ0 T) (hl : T.length ≤ 40) (hw : WTx T) : ∀ (c fu f at_ : Nat) (bs : Blk) (σ : Wd), T.length ≤ at_ + c → at_ ≤ T.length → c + 2 < fu → c < f → VB bs → FrM [48] [10, 11] σ0 σ → σ.1 41 11 = nI at_ → σ.1 41 10 = nI bs.length → MRow σ 48 0 bs →
    ∃ τ, f_X10_areBlocks_L9 N (f_X10_areBlocks_J175 N) fu (nI (wid bs)) 1 σ = some (match (parsB T f at_ bs).1 with | some _ => 0 | none => 1, τ) ∧ FrM [48] [10, 11] σ0 τ ∧ (∀ a, (parsB T f at_ bs).1 = some a → τ.1 41 11 = nI a) ∧ ((parsB T f at_ bs).1 = none → τ.1 41 10 = nI (parsB T f at_ bs).2.length ∧ MRow τ 48 0 (parsB T f at_ bs).2)
  | c, fu + 1, f + 1, at_, bs, σ, h1, h2, h3, h4, V, F, q1, q2, q3 => by
    have V1 := V.1
    have V2 := V.2.2
    obtain ⟨f2, rfl⟩ : ∃ f2, fu = f2 + 1 := ⟨fu - 1, by omega⟩
    have stop : ∀ (σ' : Wd) (y : Int32), f_X10_areBlocks_L9 N (f_X10_areBlocks_J175 N) (f2 + 1) y 0 σ' = some (0, σ') := fun σ' y => by
      rw [f_X10_areBlocks_L9, if_pos rfl]; rfl
    have ht := h.fr F (by decide) (by decide)
    have bad : ∀ (at2 : Nat) (σ' : Wd) (y0 : Int32), FrM [48] [10, 11] σ0 σ' → σ'.1 41 11 = nI at2 → at2 ≤ T.length → f_X10_areBlocks_J57 N (f_X10_areBlocks_L9 N (f_X10_areBlocks_J175 N) (f2 + 1)) (f_X10_areBlocks_J175 N) (nI (wid bs)) (-1) σ' = some (0, sF σ' 41 11 (nI at2)) := fun at2 σ' y0 F' q ha2 => by
      have hh := here_ok N (h.fr (F'.D (n := 11) (x := nI at2) (by decide)) (by decide) (by decide)) hl sF_eq (by omega)
      unfold f_X10_areBlocks_J57
      rw [if_pos (show (-1 : Int32) < 0 by decide)]
      unfold f_X10_areBlocks_J67
      rw [if_pos rfl]
      unfold f_X10_areBlocks_J82
      dsimp only
      rw [q, show nI at2 + 0 = nI at2 from nAddR _ 0, hh, obind]
      dsimp only
      rw [if_pos rfl]
      unfold f_X10_areBlocks_J125 f_X10_areBlocks_J126
      rw [if_pos rfl]
      exact stop _ _
    have fail : ∀ σ', FrM [48] [10, 11] σ0 σ' → σ'.1 41 11 = nI at_ → ∃ τ, f_X10_areBlocks_J57 N (f_X10_areBlocks_L9 N (f_X10_areBlocks_J175 N) (f2 + 1)) (f_X10_areBlocks_J175 N) (nI (wid bs)) (-1) σ' = some (0, τ) ∧ FrM [48] [10, 11] σ0 τ ∧ τ.1 41 11 = nI at_ := fun σ' F' q => ⟨_, bad at_ σ' 0 F' q h2, F'.D (by decide), sF_eq⟩
    by_cases hle : T.length ≤ at_
    · by_cases hb : bs = []
      · subst hb
        unfold parsB
        rw [if_pos hle, if_pos rfl]
        rw [f_X10_areBlocks_L9, if_neg (show ¬ (1 : Int32) = 0 by decide), q2, if_pos (show nI ([] : Blk).length = 0 from rfl)]
        unfold f_X10_areBlocks_J31
        have hh := here_ok N ht hl q1 (by omega)
        rw [if_neg (by omega)] at hh
        rw [q2, if_neg (show ¬ (8 : Int32) ≤ nI ([] : Blk).length by decide), if_neg (show ¬ (12 : Int32) ≤ nI (wid []) by decide), hh, obind]
        dsimp only
        rw [show f_X10_kindOf N (-1) σ = some (-1, σ) from rfl, obind]
        dsimp only
        obtain ⟨τ, e, F', q⟩ := fail σ F q1
        exact ⟨τ, e, F', fun a ha => by cases ha; exact q, fun z => by cases z⟩
      · have h0 : bs.length ≠ 0 := fun z => hb (List.eq_nil_of_length_eq_zero z)
        unfold parsB
        rw [if_pos hle, if_neg hb]
        rw [f_X10_areBlocks_L9, if_neg (show ¬ (1 : Int32) = 0 by decide), q2, if_neg (show ¬ nI bs.length = 0 from neN (b := 0) (by omega) (by omega) h0), ht.1, q1, if_pos ((nLe (by omega) (by omega)).mpr hle)]
        exact ⟨σ, rfl, F, (fun a ha => by cases ha), fun _ => ⟨q2, q3⟩⟩
    · have hbt := hw.get (i := at_) (by omega)
      have hh := here_ok N ht hl q1 (by omega)
      rw [if_pos (by omega)] at hh
      have hent : f_X10_areBlocks_L9 N (f_X10_areBlocks_J175 N) (f2 + 1 + 1) (nI (wid bs)) 1 σ = f_X10_areBlocks_J31 N (f_X10_areBlocks_L9 N (f_X10_areBlocks_J175 N) (f2 + 1)) (f_X10_areBlocks_J175 N) (nI (wid bs)) σ := by
        rw [f_X10_areBlocks_L9, if_neg (show ¬ (1 : Int32) = 0 by decide)]
        by_cases h0 : σ.1 41 10 = 0
        · rw [if_pos h0]
        · rw [if_neg h0, ht.1, q1, if_neg (fun z => hle ((nLe (by omega) (by omega)).mp z))]
      rw [hent]
      unfold parsB f_X10_areBlocks_J31 f_X10_areBlocks_J56
      rw [if_neg hle, q2]
      have hkd : f_X10_kindOf N (nI (T.getD at_ 0)) σ = some (match kdOf (T.getD at_ 0) with | some k => nI k | none => -1, σ) := by
        generalize T.getD at_ 0 = x at hbt
        unfold f_X10_kindOf kdOf
        by_cases k1 : x = 114
        · rw [if_pos (show nI x = 114 by rw [k1]; rfl), if_pos k1]; rfl
        · rw [if_neg (show ¬ nI x = 114 from neN (b := 114) (by omega) (by omega) k1), if_neg k1]
          by_cases k2 : x = 115
          · rw [if_pos (show nI x = 115 by rw [k2]; rfl), if_pos k2]; rfl
          · rw [if_neg (show ¬ nI x = 115 from neN (b := 115) (by omega) (by omega) k2), if_neg k2]
            by_cases k3 : x = 99
            · rw [if_pos (show nI x = 99 by rw [k3]; rfl), if_pos k3]; rfl
            · rw [if_neg (show ¬ nI x = 99 from neN (b := 99) (by omega) (by omega) k3), if_neg k3]
              by_cases k4 : x = 108
              · rw [if_pos (show nI x = 108 by rw [k4]; rfl), if_pos k4]; rfl
              · rw [if_neg (show ¬ nI x = 108 from neN (b := 108) (by omega) (by omega) k4), if_neg k4]
      have hfail : ∀ P2 : Blk, (∃ τ, f_X10_areBlocks_J57 N (f_X10_areBlocks_L9 N (f_X10_areBlocks_J175 N) (f2 + 1)) (f_X10_areBlocks_J175 N) (nI (wid bs)) (-1) σ = some (match ((some at_, P2) : Option Nat × Blk).1 with | some _ => 0 | none => 1, τ) ∧ FrM [48] [10, 11] σ0 τ ∧ (∀ a, ((some at_, P2) : Option Nat × Blk).1 = some a → τ.1 41 11 = nI a) ∧ (((some at_, P2) : Option Nat × Blk).1 = none → τ.1 41 10 = nI ((some at_, P2) : Option Nat × Blk).2.length ∧ MRow τ 48 0 ((some at_, P2) : Option Nat × Blk).2)) := fun P2 => by
        obtain ⟨τ, e, F', q⟩ := fail σ F q1
        exact ⟨τ, e, F', fun a ha => by cases ha; exact q, fun z => by cases z⟩
      by_cases c8 : 8 ≤ bs.length
      · rw [if_pos (show (8 : Int32) ≤ nI bs.length from (nLe (a := 8) (by omega) (by omega)).mpr c8)]
        cases hk : kdOf (T.getD at_ 0) with
        | none => exact hfail bs
        | some k =>
          dsimp only
          rw [if_pos (show bs.length = 8 ∨ wid bs = 12 from Or.inl (by omega))]
          exact hfail bs
      · rw [if_neg (show ¬ (8 : Int32) ≤ nI bs.length from fun z => c8 ((nLe (a := 8) (by omega) (by omega)).mp z))]
        by_cases c12 : 12 ≤ wid bs
        · rw [if_pos (show (12 : Int32) ≤ nI (wid bs) from (nLe (a := 12) (by omega) (by omega)).mpr c12)]
          cases hk : kdOf (T.getD at_ 0) with
          | none => exact hfail bs
          | some k =>
            dsimp only
            rw [if_pos (show bs.length = 8 ∨ wid bs = 12 from Or.inr (by omega))]
            exact hfail bs
        · rw [if_neg (show ¬ (12 : Int32) ≤ nI (wid bs) from fun z => c12 ((nLe (a := 12) (by omega) (by omega)).mp z)), hh, obind]
          dsimp only
          rw [hkd, obind]
          dsimp only
          cases hk : kdOf (T.getD at_ 0) with
          | none => exact hfail bs
          | some k =>
            have hk4 := kdOf_lt hk
            dsimp only
            rw [if_neg (show ¬ (bs.length = 8 ∨ wid bs = 12) from fun z => by omega)]
            unfold f_X10_areBlocks_J57
            rw [if_neg (show ¬ nI k < 0 from neg_lt k (by omega))]
            unfold f_X10_areBlocks_J67
            rw [if_neg (show ¬ (1 : Int32) = 0 by decide)]
            unfold f_X10_areBlocks_J82
            dsimp only
            have F1 : FrM [48] [10, 11] σ0 (sF σ 41 11 (nI (at_ + 1))) := F.D (by decide)
            have h1h := here_ok N (h.fr F1 (by decide) (by decide)) hl sF_eq (a := at_ + 1) (by omega)
            rw [q1, nI_1, h1h, obind]
            dsimp only
            rw [if_neg (show ¬ (1 : Int32) = 0 by decide)]
            have hstop : ∀ y3, f_X10_areBlocks_J125 N (f_X10_areBlocks_L9 N (f_X10_areBlocks_J175 N) (f2 + 1)) (f_X10_areBlocks_J175 N) (nI (wid bs)) (nI k) y3 (sF σ 41 11 (nI (at_ + 1))) = some (0, sF σ 41 11 (nI (at_ + 1))) := fun y3 => by
              unfold f_X10_areBlocks_J125 f_X10_areBlocks_J126
              rw [if_pos rfl]
              exact stop _ _
            by_cases he : T.length ≤ at_ + 1
            · rw [if_pos he, if_neg (show ¬ at_ + 1 < T.length by omega), in_n N (lo := 1) (hi := 6) (by decide) (by decide) (by decide), obind]
              dsimp only
              rw [if_pos rfl, hstop]
              exact ⟨_, rfl, F1, fun a ha => by cases ha; exact sF_eq, fun z => by cases z⟩
            · rw [if_neg he, if_pos (show at_ + 1 < T.length by omega)]
              have hb1 := hw.get (i := at_ + 1) (by omega)
              generalize hx : T.getD (at_ + 1) 0 = x at hb1 ⊢
              by_cases h49 : x < 49
              · rw [if_pos (show x < 49 ∨ 54 < x ∨ 12 < wid bs + (x - 48) from Or.inl h49), in_n N (lo := 1) (hi := 6) (by decide) (by decide) (fun z => nGe (dig_lt x h49) z.1), obind]
                dsimp only
                rw [if_pos rfl, hstop]
                exact ⟨_, rfl, F1, fun a ha => by cases ha; exact sF_eq, fun z => by cases z⟩
              · have e : nI x - 48 = nI (x - 48) := pk_sub (a := x) (b := 48) (by omega)
                rw [e]
                by_cases h54 : 54 < x
                · rw [if_pos (show x < 49 ∨ 54 < x ∨ 12 < wid bs + (x - 48) from Or.inr (Or.inl h54)), in_n N (lo := 1) (hi := 6) (by decide) (by decide) (fun z => by have := (nLe (b := 6) (by omega) (by omega)).mp z.2; omega), obind]
                  dsimp only
                  rw [if_pos rfl, hstop]
                  exact ⟨_, rfl, F1, fun a ha => by cases ha; exact sF_eq, fun z => by cases z⟩
                · rw [in_y N (lo := 1) (hi := 6) (by decide) (by decide) ⟨(nLe (a := 1) (by omega) (by omega)).mpr (by omega), (nLe (b := 6) (by omega) (by omega)).mpr (by omega)⟩, obind]
                  dsimp only
                  rw [if_neg (show ¬ (1 : Int32) = 0 by decide), nI_add]
                  by_cases hw12 : 12 < wid bs + (x - 48)
                  · rw [if_pos (show (12 : Int32) < nI (wid bs + (x - 48)) from (nLt (a := 12) (by omega) (by omega)).mpr hw12), if_pos (show x < 49 ∨ 54 < x ∨ 12 < wid bs + (x - 48) from Or.inr (Or.inr hw12)), hstop]
                    exact ⟨_, rfl, F1, fun a ha => by cases ha; exact sF_eq, fun z => by cases z⟩
                  · rw [if_neg (show ¬ (12 : Int32) < nI (wid bs + (x - 48)) from fun z => hw12 ((nLt (a := 12) (by omega) (by omega)).mp z)), if_neg (show ¬ (x < 49 ∨ 54 < x ∨ 12 < wid bs + (x - 48)) from fun z => by omega)]
                    unfold f_X10_areBlocks_J126
                    rw [if_neg (show ¬ (1 : Int32) = 0 by decide)]
                    dsimp only
                    rw [sF_eq, nI_1, sF_nb (show 10 ≠ 11 by decide), sF_nb (show 10 ≠ 11 by decide), q2, show (10 : Int32) * nI k = nI (10 * k) from nMulL 10 k, nI_add, xst_n (by omega) (by omega), obind]
                    rw [sF_ne (show 41 ≠ 48 by decide), sF_nb (show 10 ≠ 11 by decide), sF_nb (show 10 ≠ 11 by decide), q2, nI_1, nI_add]
                    have V3 := V.app2 hk4 (show 1 ≤ x - 48 by omega) (by omega) (by omega) (by omega)
                    have hc : 1 ≤ c := by omega
                    have R4 : MRow (sF (sF σ 41 11 (nI (at_ + 1))) 41 11 (nI (at_ + 1 + 1))) 48 0 bs := fun i b hi => by rw [sF_ne (by decide), sF_ne (by decide)]; exact q3 i b hi
                    have R5 := R4.ext (b := (k, x - 48))
                    have R6 : MRow (sF (sF (sF (sF σ 41 11 (nI (at_ + 1))) 41 11 (nI (at_ + 1 + 1))) 48 bs.length (nI (10 * k + (x - 48)))) 41 10 (nI (bs.length + 1))) 48 0 (bs ++ [(k, x - 48)]) := fun i b hi => by rw [sF_ne (by decide)]; exact R5 i b hi
                    have key := blk_loop N hN h hl hw (c - 1) (f2 + 1) f (at_ + 2) (bs ++ [(k, x - 48)]) (sF (sF (sF (sF σ 41 11 (nI (at_ + 1))) 41 11 (nI (at_ + 1 + 1))) 48 bs.length (nI (10 * k + (x - 48)))) 41 10 (nI (bs.length + 1))) (by omega) (by omega) (by omega) (by omega) V3 (((F1.D (by decide)).F (by decide) (by decide)).D (by decide)) (by rw [sF_nb (by decide), sF_ne (by decide), sF_eq]) (by rw [sF_eq, List.length_append]; rfl) R6
                    rw [wid_app] at key
                    exact key
  termination_by c => c
theorem areBlocks_ok (N : Nat) (hN : 2048 < N) {σ : Wd} {T : Txt} (h : MTp σ T) (hl : T.length ≤ 40) (hw : WTx T) {at_ : Nat} (ha : at_ ≤ T.length) (h11 : σ.1 41 11 = nI at_) : ∃ τ, f_X10_areBlocks N σ = some (match (parsB T 41 at_ []).1 with | some _ => 0 | none => 1, τ) ∧ FrM [48] [10, 11] σ τ ∧ (∀ a, (parsB T 41 at_ []).1 = some a → τ.1 41 11 = nI a) ∧ ((parsB T 41 at_ []).1 = none → τ.1 41 10 = nI (parsB T 41 at_ []).2.length ∧ MRow τ 48 0 (parsB T 41 at_ []).2) := by
  unfold f_X10_areBlocks
  dsimp only
  have F1 : FrM [48] [10, 11] σ (sF σ 41 10 0) := (FrM.rf _ _ σ).D (by decide)
  exact blk_loop N hN h hl hw 40 N 41 at_ [] (sF σ 41 10 0) (by omega) ha (by omega) (by omega) VB_nil F1 (by rw [sF_nb (by decide)]; exact h11) sF_eq (fun i b hb => by simp at hb)
end
