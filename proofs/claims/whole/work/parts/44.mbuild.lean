section
/-! The reference's nets built, marked, counted. -/
def FrM (ks fs : List Nat) (σ τ : Wd) : Prop := (∀ a, a ∉ ks → a ≠ 41 → ∀ b, τ.1 a b = σ.1 a b) ∧ (∀ b, b ∉ fs → τ.1 41 b = σ.1 41 b) ∧ ∀ a, a ∉ ks → ∀ b, τ.2 a b = σ.2 a b
theorem FrM.rf (ks fs : List Nat) (σ : Wd) : FrM ks fs σ σ := ⟨fun _ _ _ _ => rfl, fun _ _ => rfl, fun _ _ _ => rfl⟩
theorem FrM.tr {ks fs : List Nat} {σ τ υ : Wd} (h : FrM ks fs σ τ) (h2 : FrM ks fs τ υ) : FrM ks fs σ υ := ⟨fun a ha h4 b => (h2.1 a ha h4 b).trans (h.1 a ha h4 b), fun b hb => (h2.2.1 b hb).trans (h.2.1 b hb), fun a ha b => (h2.2.2 a ha b).trans (h.2.2 a ha b)⟩
theorem FrM.mo {ks fs ks' fs' : List Nat} {σ τ : Wd} (h : FrM ks fs σ τ) (h1 : ∀ a, a ∈ ks → a ∈ ks') (h2 : ∀ a, a ∈ fs → a ∈ fs') : FrM ks' fs' σ τ := ⟨fun a ha h4 b => h.1 a (fun z => ha (h1 a z)) h4 b, fun b hb => h.2.1 b (fun z => hb (h2 b z)), fun a ha b => h.2.2 a (fun z => ha (h1 a z)) b⟩
theorem FrM.F {ks fs : List Nat} {σ τ : Wd} {k n : Nat} {x : Int32} (h : FrM ks fs σ τ) (hk : k ∈ ks) (h41 : k ≠ 41) : FrM ks fs σ (sF τ k n x) := ⟨fun a ha h4 b => by rw [sF_ne (show a ≠ k from fun z => ha (z ▸ hk))]; exact h.1 a ha h4 b, fun b hb => by rw [sF_ne (fun z => h41 z.symm)]; exact h.2.1 b hb, fun a ha b => by rw [sF_2]; exact h.2.2 a ha b⟩
theorem FrM.D {ks fs : List Nat} {σ τ : Wd} {n : Nat} {x : Int32} (h : FrM ks fs σ τ) (hn : n ∈ fs) : FrM ks fs σ (sF τ 41 n x) := ⟨fun a ha h4 b => by rw [sF_ne h4]; exact h.1 a ha h4 b, fun b hb => by rw [sF_nb (show b ≠ n from fun z => hb (z ▸ hn))]; exact h.2.1 b hb, fun a ha b => by rw [sF_2]; exact h.2.2 a ha b⟩
theorem FrM.G {ks fs : List Nat} {σ τ : Wd} {k n : Nat} {x : Int64} (h : FrM ks fs σ τ) (hk : k ∈ ks) : FrM ks fs σ (sG τ k n x) := ⟨fun a ha h4 b => by rw [sG_1]; exact h.1 a ha h4 b, fun b hb => by rw [sG_1]; exact h.2.1 b hb, fun a ha b => by rw [sG_2, if_neg (show ¬ a = k from fun z => ha (z ▸ hk))]; exact h.2.2 a ha b⟩
theorem FrM.i {ks fs : List Nat} {σ τ : Wd} (h : FrM ks fs σ τ) {a : Nat} (ha : a ∉ ks) (h4 : a ≠ 41) (b : Nat) : τ.1 a b = σ.1 a b := h.1 a ha h4 b
theorem FrM.m {ks fs : List Nat} {σ τ : Wd} (h : FrM ks fs σ τ) {b : Nat} (hb : b ∉ fs) : τ.1 41 b = σ.1 41 b := h.2.1 b hb
theorem FrM.l {ks fs : List Nat} {σ τ : Wd} (h : FrM ks fs σ τ) {a : Nat} (ha : a ∉ ks) (b : Nat) : τ.2 a b = σ.2 a b := h.2.2 a ha b
theorem FrB.m {σ τ : Wd} (h : FrB σ τ) : FrM [53, 54, 55, 60, 61, 62] [27] σ τ := by
  refine ⟨fun a ha h4 b => ?_, fun b hb => ?_, fun a _ b => by rw [h.1]⟩
  · simp only [List.mem_cons, List.not_mem_nil, or_false, not_or] at ha
    exact h.2 a b ha.1 ha.2.1 ha.2.2.1 ha.2.2.2.1 ha.2.2.2.2.1 ha.2.2.2.2.2 (fun z => h4 z.1)
  · simp only [List.mem_cons, List.not_mem_nil, or_false] at hb
    exact h.2 41 b (by decide) (by decide) (by decide) (by decide) (by decide) (by decide) (fun z => hb z.2)
/-- rows of figures, as the reference holds blocks -/
def MRow (σ : Wd) (K base : Nat) (bs : Blk) : Prop := ∀ i b, bs[i]? = some b → σ.1 K (base + i) = nI (10 * b.1 + b.2)
def MLS (σ : Wd) (n : Nat) (den : Nat → Nat) (st : NSt) (c : Nat) : Prop := MN σ n den ∧ c < n ∧ den c = st.2.1 ∧ ∀ i, i < st.1 → GV σ n den 60 i (st.2.2 i)
theorem mlay_any (N : Nat) (hN : 2048 < N) {σ : Wd} {n : Nat} {den : Nat → Nat} {st : NSt} {c : Nat} (hS : MLS σ n den st c) {kind w : Nat} (hk : kind < 4) (hw : 1 ≤ w) (hw6 : w ≤ 6) (hlw : st.1 + w ≤ 12) {m : Nat} {o : Option (Int32 × Wd)} (hL : MLay σ n den m kind st.1 w st.2.1 o) :
    ∃ (z : Nat) (τ : Wd) (n' : Nat) (den' : Nat → Nat), o = some (nI z, τ) ∧ MLS τ n' den' (nstep st (kind, w)) z ∧ MX n den τ n' den' m ∧ FrB σ τ := by
  obtain ⟨z, τ, n', den', e, X, Y, T, G, O, F⟩ := hL
  refine ⟨z, τ, n', den', e, ⟨X.1, Y, T, fun i hi => ?_⟩, X, F⟩
  have hi2 : i < st.1 + w := hi
  show GV τ n' den' 60 i (if st.1 ≤ i ∧ i < st.1 + w then bsum kind st.1 st.2.1 i else st.2.2 i)
  by_cases hc : st.1 ≤ i
  · rw [if_pos ⟨hc, hi2⟩]
    exact G i hc hi2
  · rw [if_neg (fun z => hc z.1)]
    exact (hS.2.2.2 i (by omega)).up X.2.1 X.2.2.2 (O i (by omega))
theorem fig_dm {k w : Nat} (hw : w ≤ 6) : (10 * k + w) / 10 = k ∧ (10 * k + w) % 10 = w := by omega
theorem mbuild_loop (N : Nat) (hN : 2048 < N) {bs : Blk} (V : VB bs) {K L base : Nat} {σ0 : Wd} (hrow : MRow σ0 K base bs) (hK : K ∉ [53, 54, 55, 60, 61, 62]) (hK4 : K ≠ 41) (hL : base + bs.length ≤ L) (hL2 : L < 1000) (KO : Int32 → Int32 → Wd → Option Wd) : ∀ (cnt fuel i : Nat) (σ : Wd) (n : Nat) (den : Nat → Nat) (c : Nat),
    i + cnt = bs.length → cnt < fuel → FrM [53, 54, 55, 60, 61, 62] [27] σ0 σ → MLS σ n den ((bs.take i).foldl nstep nst0) c → n + 57 * wid (bs.drop i) ≤ 2048 →
    ∃ (τ : Wd) (n' : Nat) (den' : Nat → Nat) (c' : Nat), f_X10_builds_L10 N K L KO fuel (nI base) (nI bs.length) (nI (wid (bs.take i))) (nI c) (nI (base + i)) σ = KO (nI (wid bs)) (nI c') τ ∧ MLS τ n' den' (nets bs) c' ∧ MX n den τ n' den' (57 * wid (bs.drop i)) ∧ FrM [53, 54, 55, 60, 61, 62] [27] σ0 τ
  | 0, fuel + 1, i, σ, n, den, c, h1, h3, F0, hS, hr => by
    have := V.1
    have hi : bs.length ≤ i := by omega
    rw [f_X10_builds_L10, nI_add, if_pos ((nLe (by omega) (by omega)).mpr (by omega))]
    rw [List.take_of_length_le hi] at hS ⊢
    exact ⟨σ, n, den, c, rfl, hS, MX.rf _ hS.1, F0⟩
  | cnt + 1, fuel + 1, i, σ, n, den, c, h1, h3, F0, hS, hr => by
    have hV := V.1
    have hlt : i < bs.length := by omega
    have hp : bs[i]? = some bs[i] := List.getElem?_eq_getElem hlt
    obtain ⟨v1, v2, v3⟩ := V.2.1 _ (List.getElem_mem hlt)
    have hd : wid (bs.drop i) = (bs[i]).2 + wid (bs.drop (i + 1)) := by
      rw [List.drop_eq_getElem_cons hlt]
      unfold wid
      rw [List.map_cons, List.sum_cons]
    have hw : ((bs.take i).foldl nstep nst0).1 = wid (bs.take i) := by
      rw [nets_w]; show 0 + _ = _; omega
    have hle := wid_le bs (i + 1)
    have hwt := wid_take bs i
    rw [hp] at hwt
    dsimp only at hwt
    rw [hwt] at hle
    have hV3 := V.2.2
    generalize hst : (bs.take i).foldl nstep nst0 = st at hS hw
    obtain ⟨d1, d2⟩ := fig_dm (k := bs[i].1) v3
    have hread : xld σ K L (nI (base + i)) = some (nI (10 * bs[i].1 + bs[i].2)) := by
      rw [xld_n (by omega) (by omega), F0.i hK hK4, hrow i _ hp]
    rw [f_X10_builds_L10, nI_add, if_neg (fun z => by have := (nLe (by omega) (by omega)).mp z; omega), hread, obind, obind, show (10 : Int32) = nI 10 from rfl, pk_rem (by omega) (by decide) (by decide), pk_div (by omega) (by decide) (by decide), d1, d2, ← hw]
    have hc := hS.2.1
    have hdc := hS.2.2.1
    have fin : ∀ o : Option (Int32 × Wd), MLay σ n den (57 * bs[i].2) bs[i].1 st.1 bs[i].2 st.2.1 o → ∃ (τ : Wd) (n' : Nat) (den' : Nat → Nat) (c' : Nat), (o.bind fun p => f_X10_builds_L10 N K L KO fuel (nI base) (nI bs.length) (nI st.1 + nI bs[i].2) p.1 (nI (base + i) + 1) p.2) = KO (nI (wid bs)) (nI c') τ ∧ MLS τ n' den' (nets bs) c' ∧ MX n den τ n' den' (57 * wid (bs.drop i)) ∧ FrM [53, 54, 55, 60, 61, 62] [27] σ0 τ := by
      intro o ho
      obtain ⟨z, τ1, n1, d1, e1, s1, x1, f1⟩ := mlay_any N hN hS v1 v2 v3 (by rw [hw]; omega) ho
      rw [e1, obind, nI_1, nI_add, hw]
      dsimp only
      have hs2 : MLS τ1 n1 d1 ((bs.take (i + 1)).foldl nstep nst0) z := by
        rw [List.take_add_one, hp, List.foldl_append, hst]
        exact s1
      have hn1 := x1.2.2.1
      obtain ⟨τ, n', den', c', E, S, X, F⟩ := mbuild_loop N hN V hrow hK hK4 hL hL2 KO cnt fuel (i + 1) τ1 n1 d1 z (by omega) (by omega) (F0.tr f1.m) hs2 (by omega)
      rw [hwt] at E
      exact ⟨τ, n', den', c', E, S, x1.tr X (by omega), F⟩
    have hfit : n + 57 * bs[i].2 ≤ 2048 := by omega
    by_cases k0 : bs[i].1 = 0
    · rw [if_pos (show nI bs[i].1 = 0 by rw [k0]; rfl)]
      refine fin _ ?_
      rw [k0, ← hdc]
      exact mlayRip N hN v2 (by omega) hS.1 hc hfit
    · rw [if_neg (show ¬ nI bs[i].1 = 0 from neN (b := 0) (by omega) (by omega) k0)]
      by_cases k1 : bs[i].1 = 1
      · rw [if_pos (show nI bs[i].1 = 1 by rw [k1]; rfl)]
        refine fin _ ?_
        rw [k1, ← hdc]
        exact mlaySkip N hN v2 (by omega) hS.1 hc hfit
      · rw [if_neg (show ¬ nI bs[i].1 = 1 from neN (b := 1) (by omega) (by omega) k1)]
        by_cases k2 : bs[i].1 = 2
        · rw [if_pos (show nI bs[i].1 = 2 by rw [k2]; rfl)]
          refine fin _ ?_
          rw [k2, ← hdc]
          exact mlaySel N hN v2 (by omega) hS.1 hc hfit
        · rw [if_neg (show ¬ nI bs[i].1 = 2 from neN (b := 2) (by omega) (by omega) k2)]
          refine fin _ ?_
          rw [show bs[i].1 = 3 by omega, ← hdc]
          exact mlayAh N hN v2 v3 (by omega) hS.1 hc hfit
/-- the gates of the outcomes -/
def MOG (σ : Wd) (n w : Nat) (oz : Nat → Nat) : Prop := w ≤ 12 ∧ σ.1 41 28 = nI (w + 1) ∧ (∀ i, i < w + 1 → σ.1 60 i = nI (oz i)) ∧ ∀ i, i < w + 1 → oz i < n
theorem MOG.fr {σ τ : Wd} {ks fs : List Nat} {n w : Nat} {oz : Nat → Nat} (H : MOG σ n w oz) (F : FrM ks fs σ τ) (h1 : 28 ∉ fs) (h2 : 60 ∉ ks) : MOG τ n w oz := ⟨H.1, by rw [F.m h1]; exact H.2.1, fun i hi => by rw [F.i h2 (by decide)]; exact H.2.2.1 i hi, H.2.2.2⟩
theorem MNet.fr {σ τ : Wd} {ks fs : List Nat} {n : Nat} {kd l r den : Nat → Nat} (H : MNet σ n kd l r den) (F : FrM ks fs σ τ) (h1 : 27 ∉ fs) (h2 : 53 ∉ ks) (h3 : 54 ∉ ks) (h4 : 55 ∉ ks) : MNet τ n kd l r den := by
  obtain ⟨a, b, c, d, e⟩ := H
  refine ⟨a, b, by rw [F.m h1]; exact c, fun k hk => by rw [F.i h2 (by decide)]; exact d k hk, fun k k1 k2 => ?_⟩
  rw [F.i h2 (by decide), F.i h3 (by decide), F.i h4 (by decide)]
  exact e k k1 k2
theorem mbuilds_ok (N : Nat) (hN : 2048 < N) {bs : Blk} (V : VB bs) {K L base : Nat} {σ : Wd} (hrow : MRow σ K base bs) (hK : K ∉ [53, 54, 55, 60, 61, 62]) (hK4 : K ≠ 41) (hL : base + bs.length ≤ L) (hL2 : L < 1000) {n : Nat} {den : Nat → Nat} (H : MN σ n den) (hr : n + 57 * wid bs ≤ 2048) :
    ∃ (τ : Wd) (n' : Nat) (den' oz : Nat → Nat), f_X10_builds N K L (nI base) (nI bs.length) σ = some τ ∧ MX n den τ n' den' (57 * wid bs) ∧ MOG τ n' (wid bs) oz ∧ (∀ i, i < wid bs + 1 → den' (oz i) = outT (nets bs) i) ∧ FrM [53, 54, 55, 60, 61, 62] [27, 28] σ τ := by
  have h27 := H.lt
  have hW := V.2.2
  unfold f_X10_builds
  obtain ⟨τ, n', den', c', E, S, X, F⟩ := mbuild_loop N hN V hrow hK hK4 hL hL2 (f_X10_builds_J121 N K L) bs.length N 0 σ n den 24 (by omega) (by have := V.1; omega) (FrM.rf _ _ σ) ⟨H, by omega, H.leaf (by omega), fun i hi => absurd hi (Nat.not_lt_zero i)⟩ hr
  have E2 : f_X10_builds_L10 N K L (f_X10_builds_J121 N K L) N (nI base) (nI bs.length) 0 24 (nI base) σ = f_X10_builds_J121 N K L (nI (wid bs)) (nI c') τ := E
  rw [E2]
  unfold f_X10_builds_J121
  rw [xst_n (by omega) (by omega), obind, nI_1]
  have h1 := nets_1 bs
  obtain ⟨f, hf, hf2⟩ := pickN (w := wid bs) c' (P := fun i x => x < n' ∧ τ.1 60 i = nI x ∧ den' x = outT (nets bs) i) (fun i hi => by
    obtain ⟨z, z1, z2, z3⟩ := S.2.2.2 i (by omega)
    refine ⟨z, z1, z2, ?_⟩
    unfold outT
    rw [if_pos (by omega)]; exact z3)
  have hS := S.2.1
  refine ⟨_, n', den', f, rfl, ⟨(X.1.put (by omega)).put (by omega), X.2⟩, ⟨hW, sF_eq, fun i hi => ?_, fun i hi => ?_⟩, fun i hi => ?_, ?_⟩
  · rw [sF_ne (by decide)]
    by_cases hi2 : i = wid bs
    · rw [hi2, hf2, sF_eq]
    · rw [sF_nb hi2]; exact (hf i (by omega)).2.1
  · by_cases hi2 : i = wid bs
    · rw [hi2, hf2]; exact hS
    · exact (hf i (by omega)).1
  · by_cases hi2 : i = wid bs
    · rw [hi2, hf2, S.2.2.1]
      unfold outT
      rw [if_neg (by omega)]
    · exact (hf i (by omega)).2.2
  · exact ((F.mo (by decide) (by decide)).F (by decide) (by decide)).D (by decide)
theorem mclears_ok (N : Nat) (hN : 2048 < N) (σ : Wd) : ∃ τ, f_X10_clears N σ = some τ ∧ MN τ 27 (fun k => k) ∧ FrM [53] [27] σ τ := by
  unfold f_X10_clears
  dsimp only
  obtain ⟨τ, ⟨F, h27, q⟩, e⟩ := lp_up (g := fun fu i s => f_X10_clears_L8 N (f_X10_clears_J27 N) fu (nI i) s) (E := fun s => f_X10_clears_J27 N s) (P := fun i τ => FrM [53] [27] σ τ ∧ τ.1 41 27 = nI 27 ∧ ∀ j, j < i → τ.1 53 j = -1) (m := 27) (fun fu i τ hi ⟨F, h27, q⟩ => by
      have hle : ¬ 27 ≤ i := by omega
      refine ⟨sF τ 53 i (-1), ⟨F.F (by decide) (by decide), by rw [sF_ne (by decide)]; exact h27, fun j hj => ?_⟩, ?_⟩
      · by_cases hji : j = i
        · rw [hji, sF_eq]
        · rw [sF_nb hji]; exact q j (by omega)
      · simp (disch := omega) only [f_X10_clears_L8, L27, nLe, hle, if_false, xst_n, obind, nI_1]) (fun fu τ hP => by
      simp (disch := omega) only [f_X10_clears_L8, L27, nLe, Nat.le_refl, if_true]) 27 N 0 (sF σ 41 27 (nI 27)) (by omega) (by omega) ⟨(FrM.rf _ _ σ).D (by decide), sF_eq, fun j hj => absurd hj (Nat.not_lt_zero j)⟩
  refine ⟨τ, e, ⟨fun _ => 0, fun _ => 0, fun _ => 0, ⟨Nat.le_refl _, fun k _ => rfl, fun k k1 k2 => by omega, fun j k _ _ h => h⟩, by omega, h27, q, fun k k1 k2 => by omega⟩, F⟩
end
