/-! Loops, frames, and numbers for short proofs. -/
theorem lp_up {S R : Type} {g : Nat → Nat → S → R} {E : S → R} {P : Nat → S → Prop} {m : Nat}
    (hs : ∀ fu i s, i < m → P i s → ∃ s', P (i + 1) s' ∧ g (fu + 1) i s = g fu (i + 1) s')
    (he : ∀ fu s, P m s → g (fu + 1) m s = E s) :
    ∀ (c fu i : Nat) (s : S), i + c = m → c < fu → P i s → ∃ s', P m s' ∧ g fu i s = E s'
  | 0, fu, i, s, h1, h2, hP => by
    obtain ⟨fu, rfl⟩ : ∃ f, fu = f + 1 := ⟨fu - 1, by omega⟩
    have hi : i = m := by omega
    subst hi
    exact ⟨s, hP, he fu s hP⟩
  | c + 1, fu, i, s, h1, h2, hP => by
    obtain ⟨fu, rfl⟩ : ∃ f, fu = f + 1 := ⟨fu - 1, by omega⟩
    obtain ⟨s', hP', e⟩ := hs fu i s (by omega) hP
    rw [e]
    exact lp_up hs he c fu (i + 1) s' (by omega) (by omega) hP'
/-- downward: i - 1 is the next one, lo the last -/
theorem lp_dn {S R : Type} {g : Nat → Nat → S → R} {E : S → R} {P : Nat → S → Prop} {lo : Nat}
    (hs : ∀ fu i s, lo ≤ i → P (i + 1) s → ∃ s', P i s' ∧ g (fu + 1) (i + 1) s = g fu i s')
    (he : ∀ fu s, P lo s → g (fu + 1) lo s = E s) :
    ∀ (c fu i : Nat) (s : S), lo + c = i → c < fu → P i s → ∃ s', P lo s' ∧ g fu i s = E s'
  | 0, fu, i, s, h1, h2, hP => by
    obtain ⟨fu, rfl⟩ : ∃ f, fu = f + 1 := ⟨fu - 1, by omega⟩
    have hi : i = lo := by omega
    subst hi
    exact ⟨s, hP, he fu s hP⟩
  | c + 1, fu, i, s, h1, h2, hP => by
    obtain ⟨fu, rfl⟩ : ∃ f, fu = f + 1 := ⟨fu - 1, by omega⟩
    obtain ⟨i, rfl⟩ : ∃ j, i = j + 1 := ⟨i - 1, by omega⟩
    obtain ⟨s', hP', e⟩ := hs fu i s (by omega) hP
    rw [e]
    exact lp_dn hs he c fu i s' (by omega) (by omega) hP'
def Fr (ks : List Nat) (σ τ : Wd) : Prop := ∀ a, a ∉ ks → (∀ b, τ.1 a b = σ.1 a b) ∧ (∀ b, τ.2 a b = σ.2 a b)
theorem Fr.rf (ks : List Nat) (σ : Wd) : Fr ks σ σ := fun _ _ => ⟨fun _ => rfl, fun _ => rfl⟩
theorem Fr.tr {ks : List Nat} {σ τ υ : Wd} (h : Fr ks σ τ) (h2 : Fr ks τ υ) : Fr ks σ υ := fun a ha => ⟨fun b => ((h2 a ha).1 b).trans ((h a ha).1 b), fun b => ((h2 a ha).2 b).trans ((h a ha).2 b)⟩
theorem Fr.mo {ks ls : List Nat} {σ τ : Wd} (h : Fr ks σ τ) (hs : ∀ a, a ∈ ks → a ∈ ls) : Fr ls σ τ := fun a ha => h a (fun z => ha (hs a z))
theorem Fr.F {ks : List Nat} {σ τ : Wd} {k n : Nat} {x : Int32} (h : Fr ks σ τ) (hk : k ∈ ks) : Fr ks σ (sF τ k n x) := fun a ha => by
  have hne : a ≠ k := fun z => ha (z ▸ hk)
  exact ⟨fun b => (sF_ne hne).trans ((h a ha).1 b), fun b => by rw [sF_2]; exact (h a ha).2 b⟩
theorem Fr.G {ks : List Nat} {σ τ : Wd} {k n : Nat} {x : Int64} (h : Fr ks σ τ) (hk : k ∈ ks) : Fr ks σ (sG τ k n x) := fun a ha => by
  have hne : a ≠ k := fun z => ha (z ▸ hk)
  exact ⟨fun b => by rw [sG_1]; exact (h a ha).1 b, fun b => by rw [sG_2, if_neg hne]; exact (h a ha).2 b⟩
theorem Fr.i {ks : List Nat} {σ τ : Wd} (h : Fr ks σ τ) {a : Nat} (ha : a ∉ ks) (b : Nat) : τ.1 a b = σ.1 a b := (h a ha).1 b
theorem Fr.l {ks : List Nat} {σ τ : Wd} (h : Fr ks σ τ) {a : Nat} (ha : a ∉ ks) (b : Nat) : τ.2 a b = σ.2 a b := (h a ha).2 b
theorem FrL.fr {σ τ : Wd} (h : FrL σ τ) : Fr [4, 18, 19, 20, 22, 23, 24, 26, 27, 28, 29] σ τ := fun a ha => by
  simp only [List.mem_cons, List.not_mem_nil, or_false, not_or] at ha
  obtain ⟨h1, h2, h3, h4, h5, h6, h7, h8, h9, h10, h11⟩ := ha
  exact ⟨fun b => h.2 a b h1 h2 h3 h4 h5 h6 h7 h8 h9 h10 h11, fun b => by rw [h.1]⟩
-- numbers with literals
theorem nLeR {a b : Nat} (ha : a < 2147483648) (hb : b < 2147483648) : (nI a ≤ (no_index (OfNat.ofNat b) : Int32)) ↔ a ≤ b := nI_leI ha hb
theorem nLeL {a b : Nat} (ha : a < 2147483648) (hb : b < 2147483648) : ((no_index (OfNat.ofNat a) : Int32) ≤ nI b) ↔ a ≤ b := nI_leI ha hb
theorem nLtR {a b : Nat} (ha : a < 2147483648) (hb : b < 2147483648) : (nI a < (no_index (OfNat.ofNat b) : Int32)) ↔ a < b := nI_ltI ha hb
theorem nLtL {a b : Nat} (ha : a < 2147483648) (hb : b < 2147483648) : ((no_index (OfNat.ofNat a) : Int32) < nI b) ↔ a < b := nI_ltI ha hb
theorem nEqR {a b : Nat} (ha : a < 2147483648) (hb : b < 2147483648) : (nI a = (no_index (OfNat.ofNat b) : Int32)) ↔ a = b := nI_eq ha hb
theorem nAddR (a b : Nat) : nI a + (no_index (OfNat.ofNat b) : Int32) = nI (a + b) := nI_add a b
theorem nAddL (a b : Nat) : (no_index (OfNat.ofNat a) : Int32) + nI b = nI (a + b) := nI_add a b
theorem nMulL (a b : Nat) : (no_index (OfNat.ofNat a) : Int32) * nI b = nI (a * b) := pk_mul a b
theorem nSubR {a b : Nat} (h : b ≤ a) : nI a - (no_index (OfNat.ofNat b) : Int32) = nI (a - b) := pk_sub h
theorem nSubL {a b : Nat} (h : b ≤ a) : (no_index (OfNat.ofNat a) : Int32) - nI b = nI (a - b) := pk_sub h
theorem xld_l {σ : Wd} {k n i : Nat} (h : i < n) (hn : n < 2147483648) : xld σ k n (no_index (OfNat.ofNat i)) = some (σ.1 k i) := xld_n h hn
theorem xst_l {σ : Wd} {k n i : Nat} {x : Int32} (h : i < n) (hn : n < 2147483648) : xst σ k n (no_index (OfNat.ofNat i)) x = some (sF σ k i x) := xst_n h hn
theorem xst0_n {σ : Wd} {k n i : Nat} (h : i < n) (hn : n < 2147483648) : xstZ σ k n (nI i) 0 = some (sF σ k i 0) := xstZ_n (Or.inl rfl) h hn
theorem xst1_n {σ : Wd} {k n i : Nat} (h : i < n) (hn : n < 2147483648) : xstZ σ k n (nI i) 1 = some (sF σ k i 1) := xstZ_n (Or.inr rfl) h hn
theorem pickN {w : Nat} (z : Nat) {P : Nat → Nat → Prop} (h : ∀ i, i < w → ∃ x, P i x) : ∃ f : Nat → Nat, (∀ i, i < w → P i (f i)) ∧ f w = z := by
  have h2 : ∀ i, ∃ x, (i < w → P i x) ∧ (¬ i < w → x = z) := fun i => by
    by_cases hi : i < w
    · obtain ⟨x, hx⟩ := h i hi; exact ⟨x, fun _ => hx, fun z => absurd hi z⟩
    · exact ⟨z, fun q => absurd q hi, fun _ => rfl⟩
  obtain ⟨f, hf⟩ := Classical.skolem.mp h2
  exact ⟨f, fun i hi => (hf i).1 hi, (hf w).2 (Nat.lt_irrefl w)⟩
theorem L0 : (0 : Int32) = nI 0 := rfl
theorem L1 : (1 : Int32) = nI 1 := rfl
theorem L2 : (2 : Int32) = nI 2 := rfl
theorem L3 : (3 : Int32) = nI 3 := rfl
theorem L4 : (4 : Int32) = nI 4 := rfl
theorem L5 : (5 : Int32) = nI 5 := rfl
theorem L6 : (6 : Int32) = nI 6 := rfl
theorem L7 : (7 : Int32) = nI 7 := rfl
theorem L8 : (8 : Int32) = nI 8 := rfl
theorem L9 : (9 : Int32) = nI 9 := rfl
theorem L10 : (10 : Int32) = nI 10 := rfl
theorem L12 : (12 : Int32) = nI 12 := rfl
theorem L14 : (14 : Int32) = nI 14 := rfl
theorem L15 : (15 : Int32) = nI 15 := rfl
theorem L19 : (19 : Int32) = nI 19 := rfl
theorem L20 : (20 : Int32) = nI 20 := rfl
theorem L21 : (21 : Int32) = nI 21 := rfl
theorem L24 : (24 : Int32) = nI 24 := rfl
theorem L25 : (25 : Int32) = nI 25 := rfl
theorem L26 : (26 : Int32) = nI 26 := rfl
theorem L27 : (27 : Int32) = nI 27 := rfl
theorem L32 : (32 : Int32) = nI 32 := rfl
theorem L40 : (40 : Int32) = nI 40 := rfl
theorem L48 : (48 : Int32) = nI 48 := rfl
theorem L61 : (61 : Int32) = nI 61 := rfl
theorem L97 : (97 : Int32) = nI 97 := rfl
theorem L99 : (99 : Int32) = nI 99 := rfl
theorem L100 : (100 : Int32) = nI 100 := rfl
theorem L112 : (112 : Int32) = nI 112 := rfl
theorem L114 : (114 : Int32) = nI 114 := rfl
theorem L115 : (115 : Int32) = nI 115 := rfl
theorem L122 : (122 : Int32) = nI 122 := rfl
theorem L126 : (126 : Int32) = nI 126 := rfl
theorem L255 : (255 : Int32) = nI 255 := rfl
theorem L256 : (256 : Int32) = nI 256 := rfl
theorem L512 : (512 : Int32) = nI 512 := rfl
theorem L999 : (999 : Int32) = nI 999 := rfl
theorem L2048 : (2048 : Int32) = nI 2048 := rfl
/-- gates by their parts, as rows hold them -/
def GR (σ : Wd) (n : Nat) (kd l r den : Nat → Nat) : Prop := NT lfC n kd l r den ∧ n ≤ 512 ∧ σ.1 4 5 = nI n ∧ (∀ k, 27 ≤ k → k < n → σ.1 18 k = nI (kd k)) ∧ (∀ k, 27 ≤ k → k < n → σ.1 19 k = nI (l k)) ∧ (∀ k, 27 ≤ k → k < n → σ.1 20 k = nI (r k)) ∧ (∀ k, 27 ≤ k → k < n → kd k = 0 → l k = r k)
theorem CN.gr {σ : Wd} {n : Nat} {den : Nat → Nat} (H : CN σ n den) : ∃ kd l r, GR σ n kd l r den := by
  obtain ⟨kd, l, r, nw, bf, h1, h2, h3, h4, -⟩ := H
  exact ⟨kd, l, r, h1, h2, h3, fun k a b => (h4 k a b).1, fun k a b => (h4 k a b).2.1, fun k a b => (h4 k a b).2.2.1, fun k a b => (h4 k a b).2.2.2.2.2⟩
theorem GR.fr {σ τ : Wd} {ks : List Nat} {n : Nat} {kd l r den : Nat → Nat} (H : GR σ n kd l r den) (F : Fr ks σ τ) (h4 : 4 ∉ ks) (h18 : 18 ∉ ks) (h19 : 19 ∉ ks) (h20 : 20 ∉ ks) : GR τ n kd l r den := by
  obtain ⟨h1, h2, h3, h5, h6, h7, h8⟩ := H
  exact ⟨h1, h2, by rw [F.i h4]; exact h3, fun k a b => by rw [F.i h18]; exact h5 k a b, fun k a b => by rw [F.i h19]; exact h6 k a b, fun k a b => by rw [F.i h20]; exact h7 k a b, h8⟩
/-- the gates of the outcomes -/
def OG (σ : Wd) (n : Nat) (den : Nat → Nat) (w : Nat) (oz : Nat → Nat) : Prop := w ≤ 12 ∧ σ.1 4 6 = nI w ∧ σ.1 4 7 = nI (oz w) ∧ (∀ i, i < w → σ.1 22 i = nI (oz i)) ∧ ∀ i, i ≤ w → oz i < n
theorem CLS.og {σ : Wd} {n : Nat} {den : Nat → Nat} {st : NSt} (H : CLS σ n den st) (hw : st.1 ≤ 12) : ∃ oz, OG σ n den st.1 oz ∧ ∀ i, i ≤ st.1 → den (oz i) = outT st i := by
  obtain ⟨h1, h2, ⟨z, z1, z2, z3⟩, h4⟩ := H
  obtain ⟨oz, ho, hz⟩ := pickN z (fun i hi => h4 i hi)
  refine ⟨oz, ⟨hw, h2, by rw [hz]; exact z2, fun i hi => (ho i hi).2.1, fun i hi => ?_⟩, fun i hi => ?_⟩
  · by_cases h : i < st.1
    · exact (ho i h).1
    · rw [show i = st.1 by omega, hz]; exact z1
  · unfold outT
    by_cases h : i < st.1
    · rw [if_pos h]; exact (ho i h).2.2
    · rw [if_neg h, show i = st.1 by omega, hz]; exact z3
theorem OG.fr {σ τ : Wd} {ks : List Nat} {n w : Nat} {den oz : Nat → Nat} (H : OG σ n den w oz) (F : Fr ks σ τ) (h4 : 4 ∉ ks) (h22 : 22 ∉ ks) : OG τ n den w oz := by
  obtain ⟨h1, h2, h3, h5, h6⟩ := H
  exact ⟨h1, by rw [F.i h4]; exact h2, by rw [F.i h4]; exact h3, fun i hi => by rw [F.i h22]; exact h5 i hi, h6⟩
theorem og_ok (N : Nat) {σ : Wd} {n w : Nat} {den oz : Nat → Nat} (H : OG σ n den w oz) {i : Nat} (hi : i ≤ w) : f_X2_outcomeGate N (nI i) σ = some (nI (oz i), σ) := by
  obtain ⟨h1, h2, h3, h5, h6⟩ := H
  unfold f_X2_outcomeGate
  rw [h2]
  by_cases h : w ≤ i
  · rw [if_pos ((nLe (by omega) (by omega)).mpr h), h3, show i = w by omega]
  · rw [if_neg (fun z => h ((nLe (by omega) (by omega)).mp z)), xld_n (by omega) (by omega), obind, h5 i (by omega)]
