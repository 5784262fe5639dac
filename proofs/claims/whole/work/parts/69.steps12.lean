section
/-! Step: count. -/
def sB (bs : Blk) (k : Nat) (b : Nat × Nat) : Prop := ∃ i, i < k ∧ bs[i]? = some b
def sP (P : Pl) (j : Nat) (b : Nat × Nat) : Prop := ∃ i, i < j ∧ ∃ p, P[i]? = some p ∧ sB p.2 p.2.length b
theorem sB_s {bs : Blk} {i : Nat} {c : Nat × Nat} (h : bs[i]? = some c) (b : Nat × Nat) : sB bs (i + 1) b ↔ sB bs i b ∨ c = b := by
  constructor
  · rintro ⟨j, hj, e⟩
    by_cases hji : j = i
    · subst hji
      rw [h] at e
      exact Or.inr (Option.some.inj e)
    · exact Or.inl ⟨j, by omega, e⟩
  · rintro (⟨j, hj, e⟩ | rfl)
    · exact ⟨j, by omega, e⟩
    · exact ⟨i, by omega, h⟩
theorem sP_s {P : Pl} {i : Nat} {p : List Nat × Blk} (h : P[i]? = some p) (b : Nat × Nat) : sP P (i + 1) b ↔ sP P i b ∨ sB p.2 p.2.length b := by
  constructor
  · rintro ⟨j, hj, q, e, hq⟩
    by_cases hji : j = i
    · subst hji
      rw [h] at e
      obtain rfl := Option.some.inj e
      exact Or.inr hq
    · exact Or.inl ⟨j, by omega, q, e, hq⟩
  · rintro (⟨j, hj, e⟩ | hq)
    · exact ⟨j, by omega, e⟩
    · exact ⟨i, by omega, p, h, hq⟩
theorem c_un (N : Nat) (hN : 512 < N) {σ : Wd} {n m0 : Nat} {bs : Blk} (V : VB bs) (hx : xldL σ 16 12 (nI n) = some (lN (bcode bs))) (hm0 : m0 < 4294967296) {S : Nat × Nat → Prop} (hS : ∀ c, m0.testBit c = true ↔ ∃ b, S b ∧ 8 * b.1 + b.2 = c) (KO : Int64 → Int32 → Wd → Option (Int32 × Wd)) : ∃ m, m < 4294967296 ∧ (∀ c, m.testBit c = true ↔ ∃ b, (S b ∨ sB bs bs.length b) ∧ 8 * b.1 + b.2 = c) ∧ f_X3_unlikeBlocks_L26 N KO N (lN m0) (nI n) (nI bs.length) 0 σ = KO (lN m) (nI n) σ := by
  have hl := V.1
  obtain ⟨m, ⟨h1, h2⟩, e⟩ := lp_up (g := fun fu i m => f_X3_unlikeBlocks_L26 N KO fu (lN m) (nI n) (nI bs.length) (nI i) σ) (E := fun m => KO (lN m) (nI n) σ) (P := fun i m => m < 4294967296 ∧ ∀ c, m.testBit c = true ↔ ∃ b, (S b ∨ sB bs i b) ∧ 8 * b.1 + b.2 = c) (m := bs.length) (fun fu i m hi ⟨h1, h2⟩ => by
      have hb : bs[i]? = some bs[i] := List.getElem?_eq_getElem hi
      obtain ⟨b1, b2, b3⟩ := V.2.1 _ (List.getElem_mem hi)
      have hg : bget bs i = 8 * bs[i].1 + bs[i].2 := by unfold bget; rw [hb]
      generalize bs[i] = b0 at hb b1 b2 b3 hg
      have hc : 2 ^ (8 * b0.1 + b0.2) < 2 ^ 32 := wb_lt2 (by omega)
      refine ⟨m ||| 2 ^ (8 * b0.1 + b0.2), ⟨Nat.or_lt_two_pow (n := 32) h1 hc, fun c => ?_⟩, ?_⟩
      · rw [Nat.testBit_or, Bool.or_eq_true, h2, Nat.testBit_two_pow, decide_eq_true_eq]
        constructor
        · rintro (⟨b, q, e⟩ | e)
          · exact ⟨b, q.imp id (fun z => (sB_s hb b).mpr (Or.inl z)), e⟩
          · exact ⟨b0, Or.inr ((sB_s hb b0).mpr (Or.inr rfl)), e⟩
        · rintro ⟨b, q, e⟩
          rcases q with q | q
          · exact Or.inl ⟨b, Or.inl q, e⟩
          · rcases (sB_s hb b).mp q with q | rfl
            · exact Or.inl ⟨b, Or.inr q, e⟩
            · exact Or.inr e
      · rw [f_X3_unlikeBlocks_L26, if_neg (show ¬ nI bs.length ≤ nI i from fun z => by have := (nLe (by omega) (by omega)).mp z; omega), hx, obind, codeAt_ok N V (by omega), obind, hg]
        dsimp only
        rw [show (1 : Int64) <<< (Int32.toInt64 (nI (8 * b0.1 + b0.2)) &&& 63) = lN (1 * 2 ^ (8 * b0.1 + b0.2)) from wb_shl 1 (by omega), Nat.one_mul, wb_or (by omega) (by omega), nI_1]) (fun fu m hP => by
      rw [f_X3_unlikeBlocks_L26, if_pos (show nI bs.length ≤ nI bs.length from (nLe (by omega) (by omega)).mpr (Nat.le_refl _))]) bs.length N 0 m0 (by omega) (by omega) ⟨hm0, fun c => (hS c).trans ⟨fun ⟨b, q, e⟩ => ⟨b, Or.inl q, e⟩, fun ⟨b, q, e⟩ => ⟨b, q.resolve_right (fun ⟨i, hi, _⟩ => absurd hi (Nat.not_lt_zero i)), e⟩⟩⟩
  exact ⟨m, h1, h2, e⟩
theorem c_unlike (N : Nat) (hN : 512 < N) {σ : Wd} {P : Pl} (h : CPl σ P) (W : WP P) : ∃ m, m < 4294967296 ∧ (∀ c, m.testBit c = true ↔ ∃ b, sP P P.length b ∧ 8 * b.1 + b.2 = c) ∧ f_X3_unlikeBlocks N σ = some (nI (ctb m.testBit 32), σ) := by
  have hP := W.1
  unfold f_X3_unlikeBlocks
  obtain ⟨m, ⟨h1, h2⟩, e⟩ := lp_up (g := fun fu i m => f_X3_unlikeBlocks_L4 N (f_X3_unlikeBlocks_J61 N) fu (lN m) (nI i) σ) (E := fun m => f_X3_unlikeBlocks_J61 N (lN m) σ) (P := fun i m => m < 4294967296 ∧ ∀ c, m.testBit c = true ↔ ∃ b, sP P i b ∧ 8 * b.1 + b.2 = c) (m := P.length) (fun fu i m hi ⟨h1, h2⟩ => by
      have hp : P[i]? = some P[i] := List.getElem?_eq_getElem hi
      generalize P[i] = p at hp
      have hx : xldL σ 16 12 (nI i) = some (lN (bcode p.2)) := by rw [xldL_n (by omega) (by omega), (h.2 i _ hp).2]
      obtain ⟨m', g1, g2, e⟩ := c_un N hN (W.at hp).2.1 hx h1 h2 (f_X3_unlikeBlocks_J55 N (f_X3_unlikeBlocks_L4 N (f_X3_unlikeBlocks_J61 N) fu) (f_X3_unlikeBlocks_J61 N))
      refine ⟨m', ⟨g1, fun c => (g2 c).trans ⟨fun ⟨b, q, e⟩ => ⟨b, (sP_s hp b).mpr q, e⟩, fun ⟨b, q, e⟩ => ⟨b, (sP_s hp b).mp q, e⟩⟩⟩, ?_⟩
      rw [f_X3_unlikeBlocks_L4, h.1, if_neg (show ¬ nI P.length ≤ nI i from fun z => by have := (nLe (by omega) (by omega)).mp z; omega), hx, obind, amount_ok N (by omega) (W.at hp).2.1, obind]
      dsimp only
      rw [e]
      unfold f_X3_unlikeBlocks_J55
      rw [nI_1]) (fun fu m hP => by
      rw [f_X3_unlikeBlocks_L4, h.1, if_pos (show nI P.length ≤ nI P.length from (nLe (by omega) (by omega)).mpr (Nat.le_refl _))]) P.length N 0 0 (by omega) (by omega) ⟨by decide, fun c => ⟨fun z => by rw [Nat.zero_testBit] at z; exact absurd z (by decide), fun ⟨b, ⟨i, hi, _⟩, _⟩ => absurd hi (Nat.not_lt_zero i)⟩⟩
  refine ⟨m, h1, h2, e.trans ?_⟩
  unfold f_X3_unlikeBlocks_J61
  rw [bl_eq, obind, bl_ok h1]
def fl (b : Bool) : Int32 := if b = true then 1 else 0
def fB (P : Pl) (f : Nat) : Bool := P.any (fun p => p.2.any (fun b => 10 * b.1 + b.2 == f))
theorem fB_iff (P : Pl) (f : Nat) : fB P f = true ↔ ∃ b, sP P P.length b ∧ 10 * b.1 + b.2 = f := by
  unfold fB
  rw [List.any_eq_true]
  constructor
  · rintro ⟨p, hp, h⟩
    obtain ⟨b, hb, e⟩ := List.any_eq_true.mp h
    obtain ⟨i, hi⟩ := List.mem_iff_getElem?.mp hp
    obtain ⟨j, hj⟩ := List.mem_iff_getElem?.mp hb
    exact ⟨b, ⟨i, (List.getElem?_eq_some_iff.mp hi).1, p, hi, j, (List.getElem?_eq_some_iff.mp hj).1, hj⟩, eq_of_beq e⟩
  · rintro ⟨b, ⟨i, _, p, hi, j, _, hj⟩, e⟩
    exact ⟨p, List.mem_of_getElem? hi, List.any_eq_true.mpr ⟨b, List.mem_of_getElem? hj, beq_iff_eq.mpr e⟩⟩
theorem m_un (N : Nat) (hN : 512 < N) {σ : Wd} {P : Pl} (h : MPl σ P) (W : WP P) {j : Nat} {p : List Nat × Blk} (hp : P[j]? = some p) {f s : Nat} (hf : f < 40) {q0 : Bool} {S : Prop} (hS : q0 = true ↔ S) (KO : Int32 → Int32 → Int32 → Int32 → Wd → Option (Int32 × Wd)) : ∃ q, (q = true ↔ S ∨ ∃ b, sB p.2 p.2.length b ∧ 10 * b.1 + b.2 = f) ∧ f_X10_unlike_L27 N KO N (nI s) (nI f) (fl q0) (nI j) 0 σ = KO (nI s) (nI f) (fl q) (nI j) σ := by
  have hP := W.1
  have hj := (List.getElem?_eq_some_iff.mp hp).1
  obtain ⟨-, V, -⟩ := W.at hp
  have hl := V.1
  obtain ⟨-, -, g1, g2⟩ := h.2 j p hp
  obtain ⟨q, hq, e⟩ := lp_up (g := fun fu i q => f_X10_unlike_L27 N KO fu (nI s) (nI f) (fl q) (nI j) (nI i) σ) (E := fun q => KO (nI s) (nI f) (fl q) (nI j) σ) (P := fun i q => q = true ↔ S ∨ ∃ b, sB p.2 i b ∧ 10 * b.1 + b.2 = f) (m := p.2.length) (fun fu i q hi hq => by
      have hb : p.2[i]? = some p.2[i] := List.getElem?_eq_getElem hi
      obtain ⟨b1, b2, b3⟩ := V.2.1 _ (List.getElem_mem hi)
      generalize p.2[i] = b0 at hb b1 b2 b3
      refine ⟨q || decide (10 * b0.1 + b0.2 = f), ?_, ?_⟩
      · rw [Bool.or_eq_true, hq, decide_eq_true_eq]
        constructor
        · rintro ((z | ⟨b, z, e⟩) | e)
          · exact Or.inl z
          · exact Or.inr ⟨b, (sB_s hb b).mpr (Or.inl z), e⟩
          · exact Or.inr ⟨b0, (sB_s hb b0).mpr (Or.inr rfl), e⟩
        · rintro (z | ⟨b, z, e⟩)
          · exact Or.inl (Or.inl z)
          · rcases (sB_s hb b).mp z with z | rfl
            · exact Or.inl (Or.inr ⟨b, z, e⟩)
            · exact Or.inr e
      · rw [f_X10_unlike_L27, xld_n (by omega) (by omega), obind, g1, if_neg (show ¬ nI p.2.length ≤ nI i from fun z => by have := (nLe (by omega) (by omega)).mp z; omega)]
        cases q with
        | true => rw [if_neg (show ¬ fl true = 0 by decide), nI_1]; rfl
        | false =>
          rw [if_pos (show fl false = 0 by decide), show (8 : Int32) * nI j = nI (8 * j) from nMulL 8 j, nI_add, xld_n (by omega) (by omega), obind, g2 i _ hb, nI_1]
          by_cases hc : 10 * b0.1 + b0.2 = f
          · rw [if_pos (by rw [hc]), decide_eq_true hc]; rfl
          · rw [if_neg (show ¬ nI (10 * b0.1 + b0.2) = nI f from neN (by omega) (by omega) hc), decide_eq_false hc]; rfl) (fun fu q hP => by
      rw [f_X10_unlike_L27, xld_n (by omega) (by omega), obind, g1, if_pos (show nI p.2.length ≤ nI p.2.length from (nLe (by omega) (by omega)).mpr (Nat.le_refl _))]) p.2.length N 0 q0 (by omega) (by omega) (hS.trans ⟨Or.inl, fun z => z.resolve_right (fun ⟨b, ⟨i, hi, _⟩, _⟩ => absurd hi (Nat.not_lt_zero i))⟩)
  exact ⟨q, hq, e⟩
theorem m_unlike (N : Nat) (hN : 512 < N) {σ : Wd} {P : Pl} (h : MPl σ P) (W : WP P) : f_X10_unlike N σ = some (nI (ctb (fB P) 40), σ) := by
  have hP := W.1
  unfold f_X10_unlike
  obtain ⟨s, rfl, e⟩ := lp_up (g := fun fu i s => f_X10_unlike_L4 N (f_X10_unlike_J96 N) fu (nI s) (nI i) σ) (E := fun s => f_X10_unlike_J96 N (nI s) σ) (P := fun i s => s = ctb (fB P) i) (m := 40) (fun fu f s hf hs => by
      refine ⟨ctb (fB P) (f + 1), rfl, ?_⟩
      rw [f_X10_unlike_L4, if_neg (show ¬ (40 : Int32) ≤ nI f from fun z => by have := (nLe (a := 40) (by omega) (by omega)).mp z; omega)]
      obtain ⟨q, hq, e⟩ := lp_up (g := fun fu2 i q => f_X10_unlike_L15 N (f_X10_unlike_J78 N (f_X10_unlike_L4 N (f_X10_unlike_J96 N) fu) (f_X10_unlike_J96 N)) fu2 (nI s) (nI f) (fl q) (nI i) σ) (E := fun q => f_X10_unlike_J78 N (f_X10_unlike_L4 N (f_X10_unlike_J96 N) fu) (f_X10_unlike_J96 N) (nI s) (nI f) (fl q) σ) (P := fun i q => q = true ↔ ∃ b, sP P i b ∧ 10 * b.1 + b.2 = f) (m := P.length) (fun fu2 i q hi hq => by
          have hp : P[i]? = some P[i] := List.getElem?_eq_getElem hi
          generalize P[i] = p at hp
          obtain ⟨q', g2, e⟩ := m_un N hN h W hp (s := s) hf hq (f_X10_unlike_J72 N (f_X10_unlike_L15 N (f_X10_unlike_J78 N (f_X10_unlike_L4 N (f_X10_unlike_J96 N) fu) (f_X10_unlike_J96 N)) fu2) (f_X10_unlike_J78 N (f_X10_unlike_L4 N (f_X10_unlike_J96 N) fu) (f_X10_unlike_J96 N)))
          refine ⟨q', g2.trans ⟨fun z => ?_, fun ⟨b, z, e⟩ => ?_⟩, ?_⟩
          · rcases z with ⟨b, z, e⟩ | ⟨b, z, e⟩
            · exact ⟨b, (sP_s hp b).mpr (Or.inl z), e⟩
            · exact ⟨b, (sP_s hp b).mpr (Or.inr z), e⟩
          · rcases (sP_s hp b).mp z with z | z
            · exact Or.inl ⟨b, z, e⟩
            · exact Or.inr ⟨b, z, e⟩
          · rw [f_X10_unlike_L15, h.1, if_neg (show ¬ nI P.length ≤ nI i from fun z => by have := (nLe (by omega) (by omega)).mp z; omega), e]
            unfold f_X10_unlike_J72
            rw [nI_1]) (fun fu2 q hP => by
          rw [f_X10_unlike_L15, h.1, if_pos (show nI P.length ≤ nI P.length from (nLe (by omega) (by omega)).mpr (Nat.le_refl _))]) P.length N 0 false (by omega) (by omega) ⟨fun z => absurd z (by decide), fun ⟨b, ⟨i, hi, _⟩, _⟩ => absurd hi (Nat.not_lt_zero i)⟩
      refine Eq.trans e ?_
      have hqf : q = fB P f := Bool.eq_iff_iff.mpr (hq.trans (fB_iff P f).symm)
      rw [hqf]
      unfold f_X10_unlike_J78 ctb
      rw [hs, nI_1, nI_1]
      cases hfb : fB P f with
      | true => rw [if_neg (show ¬ fl true = 0 by decide), if_pos rfl]
      | false => rw [if_pos (show fl false = 0 by decide), if_neg (show ¬ false = true by decide), show nI (ctb (fB P) f) + 0 = nI (ctb (fB P) f + 0) from nAddR _ 0]) (fun fu s hP => by
      rw [f_X10_unlike_L4, if_pos (show (40 : Int32) ≤ nI 40 from (nLe (a := 40) (by omega) (by omega)).mpr (Nat.le_refl _))]) 40 N 0 0 (by omega) (by omega) rfl
  exact e
def isS (sh : Shv) (k : Nat) : Bool := (sh k).isSome
theorem c_fill (N : Nat) (hN : 512 < N) {σ : Wd} {sh : Shv} (h : ∀ k, k < 4 → CShk σ k (sh k)) (W : ∀ k, k < 4 → WSh (sh k)) : f_X9_filledShelves N σ = some (nI (ctb (isS sh) 4), σ) := by
  unfold f_X9_filledShelves
  obtain ⟨c, rfl, e⟩ := lp_up (g := fun fu i c => f_X9_filledShelves_L4 N (f_X9_filledShelves_J31 N) fu (nI c) (nI i) σ) (E := fun c => f_X9_filledShelves_J31 N (nI c) σ) (P := fun i c => c = ctb (isS sh) i) (m := 4) (fun fu i c hi hc => by
      refine ⟨ctb (isS sh) (i + 1), rfl, ?_⟩
      rw [f_X9_filledShelves_L4, if_neg (show ¬ (4 : Int32) ≤ nI i from fun z => by have := (nLe (a := 4) (by omega) (by omega)).mp z; omega), xsh_n hi, nI_1, nI_1, hc]
      have hk := h i hi
      have hw := W i hi
      show _ = f_X9_filledShelves_L4 N (f_X9_filledShelves_J31 N) fu (nI (ctb (isS sh) i + if isS sh i = true then 1 else 0)) (nI (i + 1)) σ
      unfold isS
      match sh i, hk, hw with
      | none, hk, hw => rw [if_pos (show σ.1 (9 + i) 1 = -1 from hk), if_neg (show ¬ (none : ShC).isSome = true by decide), Nat.add_zero (ctb _ _)]
      | some (.inl bs), hk, hw => rw [hk.1, if_neg (show ¬ (2 : Int32) = -1 by decide), if_pos (show (some (.inl bs) : ShC).isSome = true from rfl)]
      | some (.inr (so, n, it)), hk, hw =>
        have h2 : so = 0 ∨ so = 1 := by have := hw.1; omega
        rw [hk.1, if_neg (show ¬ nI so = -1 by rcases h2 with rfl | rfl <;> decide), if_pos (show (some (.inr (so, n, it)) : ShC).isSome = true from rfl)]) (fun fu c hc => by
      rw [f_X9_filledShelves_L4, if_pos (show (4 : Int32) ≤ nI 4 by decide)]) 4 N 0 0 (by omega) (by omega) rfl
  exact e
theorem m_fill (N : Nat) (hN : 512 < N) {σ : Wd} {sh : Shv} (h : ∀ k, k < 4 → MShk σ k (sh k)) (W : ∀ k, k < 4 → WSh (sh k)) (x s : Int32) : f_X10_count_L7 N (f_X10_count_J37 N) N x 0 s 0 σ = f_X10_count_J37 N x (nI (ctb (isS sh) 4)) s σ := by
  obtain ⟨c, rfl, e⟩ := lp_up (g := fun fu i c => f_X10_count_L7 N (f_X10_count_J37 N) fu x (nI c) s (nI i) σ) (E := fun c => f_X10_count_J37 N x (nI c) s σ) (P := fun i c => c = ctb (isS sh) i) (m := 4) (fun fu i c hi hc => by
      refine ⟨ctb (isS sh) (i + 1), rfl, ?_⟩
      rw [f_X10_count_L7, if_neg (show ¬ (4 : Int32) ≤ nI i from fun z => by have := (nLe (a := 4) (by omega) (by omega)).mp z; omega), xld_n hi (by omega), obind, nI_1, nI_1, show nI c + 0 = nI (c + 0) from nAddR _ 0, hc]
      have hk := h i hi
      have hw := W i hi
      show _ = f_X10_count_L7 N (f_X10_count_J37 N) fu x (nI (ctb (isS sh) i + if isS sh i = true then 1 else 0)) s (nI (i + 1)) σ
      unfold isS
      match sh i, hk, hw with
      | none, hk, hw => rw [show σ.1 67 i = -1 from hk, if_neg (show ¬ (0 : Int32) ≤ -1 by decide), if_neg (show ¬ (none : ShC).isSome = true by decide)]
      | some (.inl bs), hk, hw => rw [hk.1, if_pos (show (0 : Int32) ≤ 2 by decide), if_pos (show (some (.inl bs) : ShC).isSome = true from rfl)]
      | some (.inr (so, n, it)), hk, hw =>
        have h2 : so = 0 ∨ so = 1 := by have := hw.1; omega
        rw [hk.1, if_pos (show (0 : Int32) ≤ nI so by rcases h2 with rfl | rfl <;> decide), if_pos (show (some (.inr (so, n, it)) : ShC).isSome = true from rfl)]) (fun fu c hc => by
      rw [f_X10_count_L7, if_pos (show (4 : Int32) ≤ nI 4 by decide)]) 4 N 0 0 (by omega) (by omega) rfl
  exact e
theorem m_sum (N : Nat) (hN : 512 < N) {σ : Wd} {P : Pl} (h : MPl σ P) (W : WP P) (x y : Int32) : f_X10_count_J37 N x y 0 σ = f_X10_count_J65 N x y (nI (smf (lenP P) P.length)) σ := by
  have hP := W.1
  unfold f_X10_count_J37
  obtain ⟨c, rfl, e⟩ := lp_up (g := fun fu i c => f_X10_count_L40 N (f_X10_count_J65 N) fu x y (nI c) (nI i) σ) (E := fun c => f_X10_count_J65 N x y (nI c) σ) (P := fun i c => c = smf (lenP P) i) (m := P.length) (fun fu i c hi hc => by
      have hp : P[i]? = some P[i] := List.getElem?_eq_getElem hi
      refine ⟨smf (lenP P) (i + 1), rfl, ?_⟩
      rw [f_X10_count_L40, h.1, if_neg (fun z => by have := (nLe (by omega) (by omega)).mp z; omega), xld_n (by omega) (by omega), obind, (h.2 i _ hp).2.2.1, nI_add, nI_1, hc, smf]
      unfold lenP
      rw [hp]) (fun fu c hc => by
      rw [f_X10_count_L40, h.1, if_pos ((nLe (by omega) (by omega)).mpr (Nat.le_refl _))]) P.length N 0 0 (by omega) (by omega) rfl
  exact e
theorem st_count (N : Nat) (hN : 2048 < N) {σ : Wd} (R : SRel σ) (x : Int32) : SStep (f_X9_count N x) (f_X10_count N x) σ := by
  obtain ⟨T, P, K, d, ar, sh, hW, hC, hX, hM⟩ := id R
  obtain ⟨w1, w2, w3, w4, w5⟩ := id hW
  obtain ⟨c1, c2, c3, c4, c5⟩ := id hC
  obtain ⟨m1, m2, m3, m4, m5⟩ := id hM
  have eM : f_X10_count N x σ = f_X10_count_J65 N x (nI (ctb (isS sh) 4)) (nI (smf (lenP P) P.length)) σ := by
    unfold f_X10_count
    rw [m_fill N (by omega) m5 w5, m_sum N (by omega) m2 w2]
  unfold f_X10_count_J65 at eM
  have eX : f_X9_count N x σ = f_X9_count N x σ := rfl
  conv at eX => rhs; unfold f_X9_count
  by_cases h0 : x = 0
  · rw [if_pos h0] at eM eX
    exact SStep.ref R (r := nI P.length) (by rw [eX, c2.1]) (by rw [eM, m2.1])
  · rw [if_neg h0] at eM eX
    by_cases h1 : x = 1
    · rw [if_pos h1] at eM eX
      exact SStep.ref R (r := nI K.length) (by rw [eX, c3.1]) (by rw [eM, m3.1])
    · rw [if_neg h1] at eM eX
      by_cases h2 : x = 2
      · rw [if_pos h2] at eM eX
        exact SStep.ref R (r := nI T.length) (by rw [eX, c1.1]) (by rw [eM, m1.1])
      · rw [if_neg h2] at eM eX
        by_cases h3 : x = 3
        · rw [if_pos h3] at eM eX
          exact SStep.ref R (r := nI (ctb (isS sh) 4)) (by rw [eX, c_fill N (by omega) c5 w5, obind]) (by rw [eM])
        · rw [if_neg h3] at eM eX
          by_cases h4 : x = 4
          · rw [if_pos h4] at eM eX
            exact SStep.ref R (r := nI (smf (lenP P) P.length)) (by rw [eX, amountOf_ok N (by omega) c2 w2, obind]) (by rw [eM])
          · rw [if_neg h4] at eM eX
            by_cases h5 : x = 5
            · rw [if_pos h5] at eM eX
              obtain ⟨m, _, hm, e⟩ := c_unlike N (by omega) c2 w2
              refine SStep.ref R (r := nI (ctb m.testBit 32)) (by rw [eX, e, obind]) ?_
              rw [eM, m_unlike N (by omega) m2 w2, obind, ctb_uk (S := sP P P.length) (fun b ⟨i, _, p, hp, j, _, hb⟩ => (w2.at hp).2.1.2.1 b (List.mem_of_getElem? hb)) hm (fB_iff P)]
            · rw [if_neg h5] at eM eX
              exact SStep.ref R (r := -1) eX eM
end
