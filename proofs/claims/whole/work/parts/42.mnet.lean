section
/-! The reference's net in memory: gates, and what is made of them. -/
def lfM (k : Nat) : Nat := k
theorem lfM_ok : LF lfM := ⟨fun k hk => hk, fun j k _ _ h => h⟩
def MNet (σ : Wd) (n : Nat) (kd l r den : Nat → Nat) : Prop :=
  NT lfM n kd l r den ∧ n ≤ 2048 ∧ σ.1 41 27 = nI n ∧ (∀ k, k < 27 → σ.1 53 k = -1) ∧ ∀ k, 27 ≤ k → k < n → σ.1 53 k = nI (kd k) ∧ σ.1 54 k = nI (l k) ∧ σ.1 55 k = nI (r k) ∧ (kd k = 0 → l k = r k)
def MN (σ : Wd) (n : Nat) (den : Nat → Nat) : Prop := ∃ kd l r, MNet σ n kd l r den
def FrQ (K : Nat) (σ τ : Wd) : Prop := τ.2 = σ.2 ∧ ∀ a b, a ≠ 53 → a ≠ 54 → a ≠ 55 → a ≠ K → ¬ (a = 41 ∧ b = 27) → τ.1 a b = σ.1 a b
theorem FrQ.rf (K : Nat) (σ : Wd) : FrQ K σ σ := ⟨rfl, fun _ _ _ _ _ _ _ => rfl⟩
theorem FrQ.tr {K : Nat} {σ τ υ : Wd} (h : FrQ K σ τ) (h2 : FrQ K τ υ) : FrQ K σ υ := ⟨h2.1.trans h.1, fun a b h1 h3 h4 h5 h6 => (h2.2 a b h1 h3 h4 h5 h6).trans (h.2 a b h1 h3 h4 h5 h6)⟩
theorem FrQ.K {K : Nat} {σ τ : Wd} (h : FrQ 53 σ τ) : FrQ K σ τ := ⟨h.1, fun a b h1 h3 h4 _ h6 => h.2 a b h1 h3 h4 h1 h6⟩
theorem FrQ.put {K j : Nat} {σ τ : Wd} {x : Int32} (h : FrQ K σ τ) : FrQ K σ (sF τ K j x) := ⟨h.1, fun a b h1 h3 h4 h5 h6 => by rw [sF_ne h5]; exact h.2 a b h1 h3 h4 h5 h6⟩
theorem FrQ.at {σ τ : Wd} (h : FrQ 53 σ τ) {a b : Nat} (ha : a = 60 ∨ a = 61 ∨ a = 62) : τ.1 a b = σ.1 a b := h.2 a b (by omega) (by omega) (by omega) (by omega) (by omega)
def MX (n : Nat) (den : Nat → Nat) (τ : Wd) (n' : Nat) (den' : Nat → Nat) (m : Nat) : Prop := MN τ n' den' ∧ n ≤ n' ∧ n' ≤ n + m ∧ ∀ k, k < n → den' k = den k
theorem MX.rf {n : Nat} {den : Nat → Nat} {σ : Wd} (m : Nat) (H : MN σ n den) : MX n den σ n den m := ⟨H, Nat.le_refl _, Nat.le_add_right _ _, fun _ _ => rfl⟩
theorem MX.tr {n n1 n2 : Nat} {den d1 d2 : Nat → Nat} {τ υ : Wd} {m m2 m3 : Nat} (h : MX n den τ n1 d1 m) (h2 : MX n1 d1 υ n2 d2 m2) (hm : m + m2 ≤ m3) : MX n den υ n2 d2 m3 :=
  ⟨h2.1, Nat.le_trans h.2.1 h2.2.1, by have := h.2.2.1; have := h2.2.2.1; omega, fun k hk => by rw [h2.2.2.2 k (Nat.lt_of_lt_of_le hk h.2.1), h.2.2.2 k hk]⟩
theorem MX.mo {n n1 : Nat} {den d1 : Nat → Nat} {τ : Wd} {m m2 : Nat} (h : MX n den τ n1 d1 m) (hm : m ≤ m2) : MX n den τ n1 d1 m2 := ⟨h.1, h.2.1, by have := h.2.2.1; omega, h.2.2.2⟩
theorem MN.cong {σ τ : Wd} {n : Nat} {den : Nat → Nat} (H : MN σ n den) (h : ∀ a, a = 53 ∨ a = 54 ∨ a = 55 → ∀ b, τ.1 a b = σ.1 a b) (h5 : τ.1 41 27 = σ.1 41 27) : MN τ n den := by
  obtain ⟨kd, l, r, h1, h2, h3, h4, h6⟩ := H
  refine ⟨kd, l, r, h1, h2, by rw [h5]; exact h3, fun k hk => by rw [h 53 (by omega)]; exact h4 k hk, fun k k1 k2 => ?_⟩
  obtain ⟨e1, e2, e3, e4⟩ := h6 k k1 k2
  exact ⟨by rw [h 53 (by omega)]; exact e1, by rw [h 54 (by omega)]; exact e2, by rw [h 55 (by omega)]; exact e3, e4⟩
theorem MN.put {σ : Wd} {n : Nat} {den : Nat → Nat} (H : MN σ n den) {K j : Nat} {x : Int32} (hK : K ≠ 53 ∧ K ≠ 54 ∧ K ≠ 55 ∧ ¬ (K = 41 ∧ j = 27)) : MN (sF σ K j x) n den := by
  refine H.cong (fun a ha b => sF_ne (by omega)) ?_
  by_cases h : K = 41
  · subst h; exact sF_nb (by omega)
  · exact sF_ne (by omega)
def MOp (σ : Wd) (n : Nat) (den : Nat → Nat) (m t : Nat) (o : Option (Int32 × Wd)) : Prop :=
  ∃ (z : Nat) (τ : Wd) (n' : Nat) (den' : Nat → Nat), o = some (nI z, τ) ∧ MX n den τ n' den' m ∧ z < n' ∧ den' z = t ∧ FrQ 53 σ τ
theorem MOp.ret {σ : Wd} {n : Nat} {den : Nat → Nat} {m t : Nat} {o : Option (Int32 × Wd)} (h : MOp σ n den m t o) : MOp σ n den m t (o.bind fun p => some (p.1, p.2)) := by
  obtain ⟨z, τ, n', den', e, h2⟩ := h
  exact ⟨z, τ, n', den', by rw [e]; rfl, h2⟩
theorem MOp.here {σ : Wd} {n : Nat} {den : Nat → Nat} {z m t : Nat} (H : MN σ n den) (hz : z < n) (ht : den z = t) : MOp σ n den m t (some (nI z, σ)) := ⟨z, σ, n, den, rfl, MX.rf m H, hz, ht, FrQ.rf 53 σ⟩
theorem MN.lt {σ : Wd} {n : Nat} {den : Nat → Nat} (H : MN σ n den) : 27 ≤ n ∧ n ≤ 2048 := by obtain ⟨kd, l, r, HN⟩ := H; exact ⟨HN.1.1, HN.2.1⟩
theorem MN.leaf {σ : Wd} {n : Nat} {den : Nat → Nat} (H : MN σ n den) {k : Nat} (hk : k < 27) : den k = k := by obtain ⟨kd, l, r, HN⟩ := H; exact HN.1.2.1 k hk
theorem MN.inj {σ : Wd} {n : Nat} {den : Nat → Nat} (H : MN σ n den) {j k : Nat} (hj : j < n) (hk : k < n) (h : den j = den k) : j = k := by obtain ⟨kd, l, r, HN⟩ := H; exact HN.1.2.2.2 j k hj hk h
theorem MN.z {σ : Wd} {n : Nat} {den : Nat → Nat} (H : MN σ n den) {k : Nat} (hk : k < n) : (den k = 25 ↔ k = 25) ∧ (den k = 26 ↔ k = 26) := by
  have h27 := H.lt.1
  have h0 : den 25 = 25 := H.leaf (by omega)
  have h1 : den 26 = 26 := H.leaf (by omega)
  exact ⟨⟨fun h => H.inj hk (by omega) (h.trans h0.symm), fun h => h ▸ h0⟩, ⟨fun h => H.inj hk (by omega) (h.trans h1.symm), fun h => h ▸ h1⟩⟩
/-- a new gate -/
theorem mgate_new (N : Nat) {σ : Wd} {n : Nat} {kd l r den : Nat → Nat} (H : MNet σ n kd l r den) {s x y : Nat} (hs : s < 4) (hx : x < n) (hy : y < n) (hroom : n < 2048) (h0 : s = 0 → x = y) (hno : ∀ k, 27 ≤ k → k < n → ¬ (kd k = s ∧ ((l k = x ∧ r k = y) ∨ (l k = y ∧ r k = x)))) :
    ∃ τ, f_X10_gate_J77 N (nI s) (nI x) (nI y) σ = some (nI n, τ) ∧ MN τ (n + 1) (fun k => if k = n then mkT s (den x) (den y) else den k) ∧ FrQ 53 σ τ := by
  obtain ⟨hN, hn, hsz, hlf, hg⟩ := id H
  have h27 := hN.1
  unfold f_X10_gate_J77
  rw [hsz, xst_n hroom (by omega), obind, sF_ne (show 41 ≠ 53 by decide), hsz, xst_n hroom (by omega), obind, sF_ne (show 41 ≠ 54 by decide), sF_ne (show 41 ≠ 53 by decide), hsz, xst_n hroom (by omega), obind]
  dsimp only
  rw [sF_ne (show 41 ≠ 55 by decide), sF_ne (show 41 ≠ 54 by decide), sF_ne (show 41 ≠ 53 by decide), hsz, nI_1, sF_eq, show nI (n + 1) - 1 = nI n from nI_pred n]
  refine ⟨_, rfl, ⟨fun k => if k = n then s else kd k, fun k => if k = n then x else l k, fun k => if k = n then y else r k, ?_, by omega, sF_eq, ?_, ?_⟩, ?_⟩
  · refine ⟨by omega, fun k hk => ?_, fun k k1 k2 => ?_, fun j k hj hk he => ?_⟩
    · show (if k = n then mkT s (den x) (den y) else den k) = lfM k
      rw [if_neg (by omega)]; exact hN.2.1 k hk
    · by_cases hkn : k = n
      · subst hkn
        simp only [if_true]
        rw [if_neg (by omega), if_neg (by omega)]
        exact ⟨hs, hx, hy, rfl⟩
      · obtain ⟨a1, a2, a3, a4⟩ := hN.2.2.1 k k1 (by omega)
        simp only [if_neg hkn]
        rw [if_neg (by omega), if_neg (by omega)]
        exact ⟨a1, a2, a3, a4⟩
    · have new : ∀ i, i < n → den i ≠ mkT s (den x) (den y) := by
        intro i hi he
        by_cases hi2 : i < 27
        · have h2 := hN.2.1 i hi2
          have := mkT_ge s (den x) (den y)
          unfold lfM at h2; omega
        · obtain ⟨a1, a2, a3, a4⟩ := hN.2.2.1 i (by omega) hi
          rw [a4] at he
          obtain ⟨b1, b2⟩ := mkT_inj a1 hs he
          refine hno i (by omega) hi ⟨b1, ?_⟩
          rcases b2 with ⟨c1, c2⟩ | ⟨c1, c2⟩
          · exact Or.inl ⟨hN.2.2.2 _ _ (by omega) hx c1, hN.2.2.2 _ _ (by omega) hy c2⟩
          · exact Or.inr ⟨hN.2.2.2 _ _ (by omega) hy c1, hN.2.2.2 _ _ (by omega) hx c2⟩
      dsimp only at he
      by_cases hjn : j = n
      · by_cases hkn : k = n
        · rw [hjn, hkn]
        · rw [if_pos hjn, if_neg hkn] at he
          exact absurd he.symm (new k (by omega))
      · by_cases hkn : k = n
        · rw [if_neg hjn, if_pos hkn] at he
          exact absurd he (new j (by omega))
        · rw [if_neg hjn, if_neg hkn] at he
          exact hN.2.2.2 j k (by omega) (by omega) he
  · intro k hk
    rw [sF_ne (show 53 ≠ 41 by decide), sF_ne (show 53 ≠ 55 by decide), sF_ne (show 53 ≠ 54 by decide), sF_nb (by omega)]
    exact hlf k hk
  · intro k k1 k2
    rw [sF_ne (show 53 ≠ 41 by decide), sF_ne (show 53 ≠ 55 by decide), sF_ne (show 53 ≠ 54 by decide), sF_ne (show 54 ≠ 41 by decide), sF_ne (show 54 ≠ 55 by decide), sF_ne (show 55 ≠ 41 by decide)]
    by_cases hkn : k = n
    · subst hkn
      simp only [if_true]
      rw [sF_eq, sF_eq, sF_eq]
      exact ⟨rfl, rfl, rfl, h0⟩
    · rw [sF_nb hkn, sF_nb hkn, sF_nb hkn]
      simp only [if_neg hkn]
      rw [sF_ne (show 54 ≠ 53 by decide), sF_ne (show 55 ≠ 54 by decide), sF_ne (show 55 ≠ 53 by decide)]
      exact hg k k1 (by omega)
  · refine ⟨rfl, fun a b h1 h2 h3 h4 h5 => ?_⟩
    rw [sF_1]
    by_cases ha : a = 41
    · rw [if_pos ha, if_neg (fun hb => h5 ⟨ha, hb⟩), sF_ne h3, sF_ne h2, sF_ne h1]
    · rw [if_neg ha, sF_ne h3, sF_ne h2, sF_ne h1]
theorem mgate_46 (N : Nat) (KB : Int32 → Int32 → Int32 → Int32 → Wd → Option (Int32 × Wd)) (KO : Int32 → Int32 → Int32 → Wd → Option (Int32 × Wd)) {σ : Wd} {n : Nat} {kd l r den : Nat → Nat} (H : MNet σ n kd l r den) {s x y i : Nat} (hx : x < n) (hy : y < n) (hi : 27 ≤ i) (hn : i < n) :
    f_X10_gate_J46 N KB KO (nI s) (nI x) (nI y) (nI i) σ = if l i = y ∧ r i = x then some (nI i, σ) else KB (nI s) (nI x) (nI y) (nI (i + 1)) σ := by
  obtain ⟨hNT, hn2, hsz, hlf, hg⟩ := id H
  obtain ⟨e1, e2, e3, -⟩ := hg i hi hn
  obtain ⟨k1, k2, k3, -⟩ := hNT.2.2.1 i hi hn
  unfold f_X10_gate_J46
  rw [xld_n (by omega) (by omega), obind, e2]
  by_cases c2 : l i = y
  · rw [if_pos (by rw [c2]), xld_n (by omega) (by omega), obind, e3]
    by_cases c3 : r i = x
    · rw [if_pos (by rw [c3]), if_pos ⟨c2, c3⟩]
    · rw [if_neg (neN (by omega) (by omega) c3), if_neg (fun z => c3 z.2), nI_1]
  · rw [if_neg (neN (by omega) (by omega) c2), if_neg (fun z => c2 z.1), nI_1]
theorem mgate_step (N : Nat) (KO : Int32 → Int32 → Int32 → Wd → Option (Int32 × Wd)) {σ : Wd} {n : Nat} {kd l r den : Nat → Nat} (H : MNet σ n kd l r den) {s x y i : Nat} (hs : s < 4) (hx : x < n) (hy : y < n) (hi : 27 ≤ i) (hn : i < n) (fu : Nat) :
    f_X10_gate_L4 N KO (fu + 1) (nI s) (nI x) (nI y) (nI i) σ = if kd i = s ∧ ((l i = x ∧ r i = y) ∨ (l i = y ∧ r i = x)) then some (nI i, σ) else f_X10_gate_L4 N KO fu (nI s) (nI x) (nI y) (nI (i + 1)) σ := by
  obtain ⟨hNT, hn2, hsz, hlf, hg⟩ := id H
  obtain ⟨e1, e2, e3, -⟩ := hg i hi hn
  obtain ⟨k1, k2, k3, -⟩ := hNT.2.2.1 i hi hn
  rw [f_X10_gate_L4, hsz, if_neg (fun z => by have := (nLe (by omega) (by omega)).mp z; omega), xld_n (by omega) (by omega), obind, e1]
  by_cases c1 : kd i = s
  · rw [if_pos (by rw [c1]), xld_n (by omega) (by omega), obind, e2]
    by_cases c2 : l i = x
    · rw [if_pos (by rw [c2]), xld_n (by omega) (by omega), obind, e3]
      by_cases c3 : r i = y
      · rw [if_pos (by rw [c3]), if_pos ⟨c1, Or.inl ⟨c2, c3⟩⟩]
      · rw [if_neg (neN (by omega) (by omega) c3), mgate_46 N _ _ H hx hy hi hn]
        by_cases c4 : l i = y ∧ r i = x
        · rw [if_pos c4, if_pos ⟨c1, Or.inr c4⟩]
        · rw [if_neg c4, if_neg (fun z => z.2.elim (fun z => c3 z.2) c4)]
    · rw [if_neg (neN (by omega) (by omega) c2), mgate_46 N _ _ H hx hy hi hn]
      by_cases c4 : l i = y ∧ r i = x
      · rw [if_pos c4, if_pos ⟨c1, Or.inr c4⟩]
      · rw [if_neg c4, if_neg (fun z => z.2.elim (fun z => c2 z.1) c4)]
  · rw [if_neg (neN (by omega) (by omega) c1), if_neg (fun z => c1 z.1), nI_1]
theorem mgate_ok (N : Nat) (hN : 2048 < N) {σ : Wd} {n : Nat} {den : Nat → Nat} (H : MN σ n den) {s x y : Nat} (hs : s < 4) (hx : x < n) (hy : y < n) (hroom : n < 2048) (h0 : s = 0 → x = y) : MOp σ n den 1 (mkT s (den x) (den y)) (f_X10_gate N (nI s) (nI x) (nI y) σ) := by
  obtain ⟨kd, l, r, HN⟩ := id H
  obtain ⟨hNT, hn, hsz, hlf, hg⟩ := id HN
  have h27 := hNT.1
  unfold f_X10_gate
  have hs2 : ∀ fu i, i < n → ¬ (27 ≤ i ∧ kd i = s ∧ ((l i = x ∧ r i = y) ∨ (l i = y ∧ r i = x))) → 27 ≤ i → f_X10_gate_L4 N (f_X10_gate_J77 N) (fu + 1) (nI s) (nI x) (nI y) (nI i) σ = f_X10_gate_L4 N (f_X10_gate_J77 N) fu (nI s) (nI x) (nI y) (nI (i + 1)) σ := fun fu i hi hq h27i => by
    rw [mgate_step N _ HN hs hx hy h27i hi, if_neg (fun z => hq ⟨h27i, z⟩)]
  obtain ⟨j, j2, j3, j4, j5⟩ : ∃ j, j ≤ n ∧ (∀ k, 27 ≤ k → k < j → ¬ (kd k = s ∧ ((l k = x ∧ r k = y) ∨ (l k = y ∧ r k = x)))) ∧ (j < n → 27 ≤ j ∧ kd j = s ∧ ((l j = x ∧ r j = y) ∨ (l j = y ∧ r j = x))) ∧ f_X10_gate_L4 N (f_X10_gate_J77 N) N (nI s) (nI x) (nI y) 27 σ = if j < n then some (nI j, σ) else f_X10_gate_J77 N (nI s) (nI x) (nI y) σ := by
    obtain ⟨j, j1, j2, j3, j4, j5⟩ := lp_find (g := fun fu i => f_X10_gate_L4 N (f_X10_gate_J77 N) fu (nI s) (nI x) (nI y) (nI (27 + i)) σ) (E := fun i => if 27 + i < n then some (nI (27 + i), σ) else f_X10_gate_J77 N (nI s) (nI x) (nI y) σ) (Q := fun i => kd (27 + i) = s ∧ ((l (27 + i) = x ∧ r (27 + i) = y) ∨ (l (27 + i) = y ∧ r (27 + i) = x))) (m := n - 27) (fun fu i hi hq => by
        rw [mgate_step N _ HN hs hx hy (by omega) (by omega), if_neg hq]; rfl) (fun fu i hi hq => by
        rw [mgate_step N _ HN hs hx hy (by omega) (by omega), if_pos hq, if_pos (by omega)]) (fun fu => by
        rw [f_X10_gate_L4, hsz, if_pos ((nLe (by omega) (by omega)).mpr (by omega)), if_neg (by omega)]) (n - 27) N 0 (by omega) (by omega)
    refine ⟨27 + j, by omega, fun k k1 k2 => ?_, fun z => ⟨by omega, j4 (by omega)⟩, j5⟩
    have := j3 (k - 27) (Nat.zero_le _) (by omega)
    rw [show 27 + (k - 27) = k by omega] at this
    exact this
  rw [j5]
  by_cases hj : j < n
  · obtain ⟨q1, q2, q3⟩ := j4 hj
    rw [if_pos hj]
    refine MOp.here H hj ?_
    rw [(hNT.2.2.1 j q1 hj).2.2.2, q2]
    rcases q3 with ⟨c1, c2⟩ | ⟨c1, c2⟩
    · rw [c1, c2]
    · rw [c1, c2, mkT_comm]
  · rw [if_neg hj]
    have hjn : j = n := by omega
    subst hjn
    obtain ⟨τ, e1, e2, e3⟩ := mgate_new N HN hs hx hy hroom h0 (fun k k1 k2 => j3 k k1 k2)
    exact ⟨j, τ, j + 1, _, e1, ⟨e2, by omega, by omega, fun k hk => by rw [if_neg (by omega)]⟩, by omega, by rw [if_pos rfl], e3⟩
theorem mnot_ok (N : Nat) (hN : 2048 < N) {σ : Wd} {n : Nat} {den : Nat → Nat} (H : MN σ n den) {x : Nat} (hx : x < n) (hroom : n < 2048) : MOp σ n den 1 (tNot (den x)) (f_X10_not N (nI x) σ) := by
  obtain ⟨kd, l, r, HN⟩ := id H
  obtain ⟨hNT, hn, hsz, hlf, hg⟩ := id HN
  have h27 := H.lt
  unfold f_X10_not tNot
  by_cases h0 : x = 25
  · rw [if_pos (show nI x = 25 by rw [h0]; rfl), if_pos ((H.z hx).1.mpr h0)]
    exact MOp.here (z := 26) H (by omega) (H.leaf (by omega))
  · rw [if_neg (show ¬ nI x = 25 from neN (b := 25) (by omega) (by omega) h0), if_neg (fun z => h0 ((H.z hx).1.mp z))]
    by_cases h1 : x = 26
    · rw [if_pos (show nI x = 26 by rw [h1]; rfl), if_pos ((H.z hx).2.mpr h1)]
      exact MOp.here (z := 25) H (by omega) (H.leaf (by omega))
    · rw [if_neg (show ¬ nI x = 26 from neN (b := 26) (by omega) (by omega) h1), if_neg (fun z => h1 ((H.z hx).2.mp z)), xld_n (by omega) (by omega), obind]
      by_cases h2 : x < 27
      · rw [hlf x h2, if_neg (show ¬ (-1 : Int32) = 0 by decide), if_neg (fun z => by have := H.leaf h2; omega)]
        have := mgate_ok N hN H (s := 0) (by omega) hx hx hroom (fun _ => rfl)
        exact this.ret
      · obtain ⟨e1, e2, e3, e4⟩ := hg x (by omega) hx
        obtain ⟨k1, k2, k3, k4⟩ := hNT.2.2.1 x (by omega) hx
        have hK : tK (den x) = kd x := by rw [k4, tK_mk _ _ k1]
        have hge : 27 ≤ den x := (hNT.den_ge lfM_ok hx).mpr (by omega)
        rw [e1]
        by_cases h3 : kd x = 0
        · rw [if_pos (show nI (kd x) = 0 by rw [h3]; rfl), if_pos ⟨hge, hK.trans h3⟩, xld_n (by omega) (by omega), obind, e2]
          refine MOp.here H (by omega) ?_
          rw [k4, tA_mk _ _ k1, ← e4 h3, Nat.min_self]
        · rw [if_neg (show ¬ nI (kd x) = 0 from neN (b := 0) (by omega) (by omega) h3), if_neg (fun z => h3 (hK.symm.trans z.2))]
          have := mgate_ok N hN H (s := 0) (by omega) hx hx hroom (fun _ => rfl)
          exact this.ret
theorem mand_ok (N : Nat) (hN : 2048 < N) {σ : Wd} {n : Nat} {den : Nat → Nat} (H : MN σ n den) {x y : Nat} (hx : x < n) (hy : y < n) (hroom : n < 2048) : MOp σ n den 1 (tAnd (den x) (den y)) (f_X10_and N (nI x) (nI y) σ) := by
  have h27 := H.lt
  unfold f_X10_and tAnd
  by_cases h0 : x = 25
  · rw [if_pos (show nI x = 25 by rw [h0]; rfl), if_pos (Or.inl ((H.z hx).1.mpr h0))]
    exact MOp.here (z := 25) H (by omega) (H.leaf (by omega))
  · rw [if_neg (show ¬ nI x = 25 from neN (b := 25) (by omega) (by omega) h0)]
    by_cases h1 : y = 25
    · rw [if_pos (show nI y = 25 by rw [h1]; rfl), if_pos (Or.inr ((H.z hy).1.mpr h1))]
      exact MOp.here (z := 25) H (by omega) (H.leaf (by omega))
    · rw [if_neg (show ¬ nI y = 25 from neN (b := 25) (by omega) (by omega) h1), if_neg (show ¬ (den x = 25 ∨ den y = 25) from fun z => z.elim (fun z => h0 ((H.z hx).1.mp z)) (fun z => h1 ((H.z hy).1.mp z)))]
      by_cases h2 : x = 26
      · rw [if_pos (show nI x = 26 by rw [h2]; rfl), if_pos ((H.z hx).2.mpr h2)]
        exact MOp.here H hy rfl
      · rw [if_neg (show ¬ nI x = 26 from neN (b := 26) (by omega) (by omega) h2), if_neg (show ¬ den x = 26 from fun z => h2 ((H.z hx).2.mp z))]
        by_cases h4 : x = y
        · rw [if_pos (eqN (by omega) (by omega) h4), if_pos (show den y = 26 ∨ den x = den y from Or.inr (by rw [h4])), h4]
          exact MOp.here H hy rfl
        · rw [if_neg (neN (by omega) (by omega) h4)]
          by_cases h3 : y = 26
          · rw [if_pos (show nI y = 26 by rw [h3]; rfl), if_pos (show den y = 26 ∨ den x = den y from Or.inl ((H.z hy).2.mpr h3))]
            exact MOp.here H hx rfl
          · rw [if_neg (show ¬ nI y = 26 from neN (b := 26) (by omega) (by omega) h3), if_neg (show ¬ (den y = 26 ∨ den x = den y) from fun z => z.elim (fun z => h3 ((H.z hy).2.mp z)) (fun z => h4 (H.inj hx hy z)))]
            exact (mgate_ok N hN H (s := 1) (by omega) hx hy hroom (fun z => by omega)).ret
theorem mor_ok (N : Nat) (hN : 2048 < N) {σ : Wd} {n : Nat} {den : Nat → Nat} (H : MN σ n den) {x y : Nat} (hx : x < n) (hy : y < n) (hroom : n < 2048) : MOp σ n den 1 (tOr (den x) (den y)) (f_X10_or N (nI x) (nI y) σ) := by
  have h27 := H.lt
  unfold f_X10_or tOr
  by_cases h0 : x = 26
  · rw [if_pos (show nI x = 26 by rw [h0]; rfl), if_pos (Or.inl ((H.z hx).2.mpr h0))]
    exact MOp.here (z := 26) H (by omega) (H.leaf (by omega))
  · rw [if_neg (show ¬ nI x = 26 from neN (b := 26) (by omega) (by omega) h0)]
    by_cases h1 : y = 26
    · rw [if_pos (show nI y = 26 by rw [h1]; rfl), if_pos (Or.inr ((H.z hy).2.mpr h1))]
      exact MOp.here (z := 26) H (by omega) (H.leaf (by omega))
    · rw [if_neg (show ¬ nI y = 26 from neN (b := 26) (by omega) (by omega) h1), if_neg (show ¬ (den x = 26 ∨ den y = 26) from fun z => z.elim (fun z => h0 ((H.z hx).2.mp z)) (fun z => h1 ((H.z hy).2.mp z)))]
      by_cases h2 : x = 25
      · rw [if_pos (show nI x = 25 by rw [h2]; rfl), if_pos ((H.z hx).1.mpr h2)]
        exact MOp.here H hy rfl
      · rw [if_neg (show ¬ nI x = 25 from neN (b := 25) (by omega) (by omega) h2), if_neg (show ¬ den x = 25 from fun z => h2 ((H.z hx).1.mp z))]
        by_cases h4 : x = y
        · rw [if_pos (eqN (by omega) (by omega) h4), if_pos (show den y = 25 ∨ den x = den y from Or.inr (by rw [h4])), h4]
          exact MOp.here H hy rfl
        · rw [if_neg (neN (by omega) (by omega) h4)]
          by_cases h3 : y = 25
          · rw [if_pos (show nI y = 25 by rw [h3]; rfl), if_pos (show den y = 25 ∨ den x = den y from Or.inl ((H.z hy).1.mpr h3))]
            exact MOp.here H hx rfl
          · rw [if_neg (show ¬ nI y = 25 from neN (b := 25) (by omega) (by omega) h3), if_neg (show ¬ (den y = 25 ∨ den x = den y) from fun z => z.elim (fun z => h3 ((H.z hy).1.mp z)) (fun z => h4 (H.inj hx hy z)))]
            exact (mgate_ok N hN H (s := 2) (by omega) hx hy hroom (fun z => by omega)).ret
theorem mxor_ok (N : Nat) (hN : 2048 < N) {σ : Wd} {n : Nat} {den : Nat → Nat} (H : MN σ n den) {x y : Nat} (hx : x < n) (hy : y < n) (hroom : n < 2048) : MOp σ n den 1 (tXor (den x) (den y)) (f_X10_xor N (nI x) (nI y) σ) := by
  have h27 := H.lt
  unfold f_X10_xor tXor
  by_cases h4 : x = y
  · rw [if_pos (eqN (by omega) (by omega) h4), if_pos (show den x = den y by rw [h4])]
    exact MOp.here (z := 25) H (by omega) (H.leaf (by omega))
  · rw [if_neg (neN (by omega) (by omega) h4), if_neg (show ¬ den x = den y from fun z => h4 (H.inj hx hy z))]
    by_cases h0 : x = 25
    · rw [if_pos (show nI x = 25 by rw [h0]; rfl), if_pos ((H.z hx).1.mpr h0)]
      exact MOp.here H hy rfl
    · rw [if_neg (show ¬ nI x = 25 from neN (b := 25) (by omega) (by omega) h0), if_neg (show ¬ den x = 25 from fun z => h0 ((H.z hx).1.mp z))]
      by_cases h1 : y = 25
      · rw [if_pos (show nI y = 25 by rw [h1]; rfl), if_pos ((H.z hy).1.mpr h1)]
        exact MOp.here H hx rfl
      · rw [if_neg (show ¬ nI y = 25 from neN (b := 25) (by omega) (by omega) h1), if_neg (show ¬ den y = 25 from fun z => h1 ((H.z hy).1.mp z))]
        by_cases h2 : x = 26
        · rw [if_pos (show nI x = 26 by rw [h2]; rfl), if_pos ((H.z hx).2.mpr h2)]
          exact (mnot_ok N hN H hy hroom).ret
        · rw [if_neg (show ¬ nI x = 26 from neN (b := 26) (by omega) (by omega) h2), if_neg (show ¬ den x = 26 from fun z => h2 ((H.z hx).2.mp z))]
          by_cases h3 : y = 26
          · rw [if_pos (show nI y = 26 by rw [h3]; rfl), if_pos ((H.z hy).2.mpr h3)]
            exact (mnot_ok N hN H hx hroom).ret
          · rw [if_neg (show ¬ nI y = 26 from neN (b := 26) (by omega) (by omega) h3), if_neg (show ¬ den y = 26 from fun z => h3 ((H.z hy).2.mp z))]
            exact (mgate_ok N hN H (s := 3) (by omega) hx hy hroom (fun z => by omega)).ret
theorem mp_ok (N : Nat) (hN : 2048 < N) {σ : Wd} {n : Nat} {den : Nat → Nat} (H : MN σ n den) {i : Nat} (hi : i < 12) (hroom : n < 2048) : MOp σ n den 1 (tP i) (f_X10_p N (nI i) σ) := by
  have h27 := H.lt
  unfold f_X10_p tP
  rw [show (12 : Int32) + nI i = nI (12 + i) from nAddL 12 i]
  have := (mxor_ok N hN H (show i < n by omega) (show 12 + i < n by omega) hroom).ret
  rw [H.leaf (show i < 27 by omega), H.leaf (show 12 + i < 27 by omega)] at this
  exact this
theorem mg_ok (N : Nat) (hN : 2048 < N) {σ : Wd} {n : Nat} {den : Nat → Nat} (H : MN σ n den) {i : Nat} (hi : i < 12) (hroom : n < 2048) : MOp σ n den 1 (tG i) (f_X10_g N (nI i) σ) := by
  have h27 := H.lt
  unfold f_X10_g tG
  rw [show (12 : Int32) + nI i = nI (12 + i) from nAddL 12 i]
  have := (mand_ok N hN H (show i < n by omega) (show 12 + i < n by omega) hroom).ret
  rw [H.leaf (show i < 27 by omega), H.leaf (show 12 + i < 27 by omega)] at this
  exact this
end
