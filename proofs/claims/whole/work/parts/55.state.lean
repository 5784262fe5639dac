section
/-! The state of both, and steps. -/
abbrev ShC : Type := Option (Blk ⊕ (Nat × Nat × (Nat → Int64)))
def CShk (σ : Wd) (k : Nat) : ShC → Prop
  | none => σ.1 (9 + k) 1 = -1
  | some (.inl bs) => σ.1 (9 + k) 1 = 2 ∧ σ.2 (9 + k) 3 = lN (bcode bs)
  | some (.inr (so, n, it)) => σ.1 (9 + k) 1 = nI so ∧ σ.1 (9 + k) 2 = nI n ∧ ∀ i, i < n → σ.2 (37 + k) i = it i
def MShk (σ : Wd) (k : Nat) : ShC → Prop
  | none => σ.1 67 k = -1
  | some (.inl bs) => σ.1 67 k = 2 ∧ σ.1 68 k = nI bs.length ∧ MRow σ 69 (8 * k) bs
  | some (.inr (so, n, it)) => σ.1 67 k = nI so ∧ σ.1 68 k = nI n ∧ ∀ i, i < n → σ.2 70 (20 * k + i) = it i
def WSh : ShC → Prop
  | none => True
  | some (.inl bs) => VB bs ∧ bs ≠ []
  | some (.inr (so, n, _)) => so < 2 ∧ n ≤ 20
theorem CShk.eq {σ τ : Wd} {k : Nat} {c : ShC} (h : CShk σ k c) (h1 : ∀ b, τ.1 (9 + k) b = σ.1 (9 + k) b) (h2 : ∀ b, τ.2 (9 + k) b = σ.2 (9 + k) b) (h3 : ∀ b, τ.2 (37 + k) b = σ.2 (37 + k) b) : CShk τ k c := by
  match c, h with
  | none, h => exact (h1 1).trans h
  | some (.inl bs), h => exact ⟨(h1 1).trans h.1, (h2 3).trans h.2⟩
  | some (.inr (so, n, it)), h => exact ⟨(h1 1).trans h.1, (h1 2).trans h.2.1, fun i hi => (h3 i).trans (h.2.2 i hi)⟩
theorem MShk.eq {σ τ : Wd} {k : Nat} {c : ShC} (h : MShk σ k c) (h1 : τ.1 67 k = σ.1 67 k) (h2 : τ.1 68 k = σ.1 68 k) (h3 : ∀ j, j < 8 → τ.1 69 (8 * k + j) = σ.1 69 (8 * k + j)) (h4 : ∀ j, j < 20 → τ.2 70 (20 * k + j) = σ.2 70 (20 * k + j)) (hw : WSh c) : MShk τ k c := by
  match c, h, hw with
  | none, h, _ => exact h1.trans h
  | some (.inl bs), h, hw => exact ⟨h1.trans h.1, h2.trans h.2.1, fun i b hb => by
      have := (List.getElem?_eq_some_iff.mp hb).1
      have hV := hw.1.1
      rw [h3 i (by omega)]; exact h.2.2 i b hb⟩
  | some (.inr (so, n, it)), h, hw => exact ⟨h1.trans h.1, h2.trans h.2.1, fun i hi => by
      have := hw.2
      rw [h4 i (by omega)]; exact h.2.2 i hi⟩
abbrev Shv : Type := Nat → ShC
def updS (sh : Shv) (k : Nat) (c : ShC) : Shv := fun j => if j = k then c else sh j
/-- what the class holds that calls show -/
def CC (σ : Wd) (T : Txt) (P : Pl) (K : List Blk) (d ar : Nat → Nat) (sh : Shv) : Prop := CTp σ T ∧ CPl σ P ∧ CKn σ K ∧ DA σ d ar ∧ ∀ k, k < 4 → CShk σ k (sh k)
def CX (σ : Wd) (d ar : Nat → Nat) : Prop := V33 σ ∧ SWI σ d ar ∧ SRI σ d ar
def MI (σ : Wd) (T : Txt) (P : Pl) (K : List Blk) (d ar : Nat → Nat) (sh : Shv) : Prop := MTp σ T ∧ MPl σ P ∧ MKn σ K ∧ MDA σ d ar ∧ ∀ k, k < 4 → MShk σ k (sh k)
def WSt (T : Txt) (P : Pl) (K : List Blk) (d ar : Nat → Nat) (sh : Shv) : Prop := (T.length ≤ 40 ∧ WTx T) ∧ WP P ∧ WK K ∧ dab d ar ∧ ∀ k, k < 4 → WSh (sh k)
def SRel (σ : Wd) : Prop := ∃ T P K d ar sh, WSt T P K d ar sh ∧ CC σ T P K d ar sh ∧ CX σ d ar ∧ MI σ T P K d ar sh
def FrX (σ τ : Wd) : Prop := ∀ a, 41 ≤ a → (∀ b, τ.1 a b = σ.1 a b) ∧ ∀ b, τ.2 a b = σ.2 a b
def FrY (σ τ : Wd) : Prop := ∀ a, a < 41 → (∀ b, τ.1 a b = σ.1 a b) ∧ ∀ b, τ.2 a b = σ.2 a b
theorem FrX.rf (σ : Wd) : FrX σ σ := fun _ _ => ⟨fun _ => rfl, fun _ => rfl⟩
theorem FrY.rf (σ : Wd) : FrY σ σ := fun _ _ => ⟨fun _ => rfl, fun _ => rfl⟩
theorem FrX.tr {σ τ υ : Wd} (h : FrX σ τ) (h2 : FrX τ υ) : FrX σ υ := fun a ha => ⟨fun b => ((h2 a ha).1 b).trans ((h a ha).1 b), fun b => ((h2 a ha).2 b).trans ((h a ha).2 b)⟩
theorem FrY.tr {σ τ υ : Wd} (h : FrY σ τ) (h2 : FrY τ υ) : FrY σ υ := fun a ha => ⟨fun b => ((h2 a ha).1 b).trans ((h a ha).1 b), fun b => ((h2 a ha).2 b).trans ((h a ha).2 b)⟩
theorem Fr.x {ks : List Nat} {σ τ : Wd} (h : Fr ks σ τ) (hk : ks.all (fun k => Nat.blt k 41) = true) : FrX σ τ := fun a ha => h a (fun z => by
  have h1 := List.all_eq_true.mp hk a z
  have h2 : a < 41 := Nat.le_of_ble_eq_true h1
  omega)
theorem FrM.y {ks fs : List Nat} {σ τ : Wd} (h : FrM ks fs σ τ) (hk : ks.all (fun k => Nat.ble 41 k) = true) : FrY σ τ := fun a ha => by
  have hn : a ∉ ks := fun z => by
    have h1 := List.all_eq_true.mp hk a z
    have h2 : 41 ≤ a := Nat.le_of_ble_eq_true h1
    omega
  exact ⟨h.1 a hn (by omega), h.2.2 a hn⟩
theorem CC.fr {σ τ : Wd} {ks : List Nat} {T : Txt} {P : Pl} {K : List Blk} {d ar : Nat → Nat} {sh : Shv} (h : CC σ T P K d ar sh) (F : Fr ks σ τ) (hk : ks.all (fun k => Nat.beq k 4 || Nat.beq k 5 || Nat.beq k 6 || Nat.beq k 7 || Nat.beq k 8 || Nat.beq k 13 || (Nat.ble 18 k && Nat.ble k 29) || (Nat.ble 32 k && Nat.ble k 36)) = true) : CC τ T P K d ar sh := by
  have hn : ∀ a, (Nat.beq a 4 || Nat.beq a 5 || Nat.beq a 6 || Nat.beq a 7 || Nat.beq a 8 || Nat.beq a 13 || (Nat.ble 18 a && Nat.ble a 29) || (Nat.ble 32 a && Nat.ble a 36)) = false → a ∉ ks := fun a ha z => by
    have := List.all_eq_true.mp hk a z
    rw [ha] at this; cases this
  obtain ⟨h1, h2, h3, h4, h5⟩ := h
  refine ⟨h1.fr F (hn 1 rfl) (hn 14 rfl), h2.fr F (hn 2 rfl) (hn 15 rfl) (hn 16 rfl), h3.fr F (hn 3 rfl) (hn 17 rfl), h4.fr F (hn 30 rfl) (hn 31 rfl), fun k hk4 => (h5 k hk4).eq (fun b => ?_) (fun b => ?_) (fun b => ?_)⟩
  · exact F.i (by match k, hk4 with | 0, _ => exact hn 9 rfl | 1, _ => exact hn 10 rfl | 2, _ => exact hn 11 rfl | 3, _ => exact hn 12 rfl) b
  · exact F.l (by match k, hk4 with | 0, _ => exact hn 9 rfl | 1, _ => exact hn 10 rfl | 2, _ => exact hn 11 rfl | 3, _ => exact hn 12 rfl) b
  · exact F.l (by match k, hk4 with | 0, _ => exact hn 37 rfl | 1, _ => exact hn 38 rfl | 2, _ => exact hn 39 rfl | 3, _ => exact hn 40 rfl) b
theorem CX.fr {σ τ : Wd} {ks : List Nat} {d ar : Nat → Nat} (h : CX σ d ar) (F : Fr ks σ τ) (h33 : 33 ∉ ks) (h6 : 6 ∉ ks) (h36 : 36 ∉ ks) (h7 : 7 ∉ ks) : CX τ d ar := ⟨h.1.fr F h33, h.2.1.fr F h6 h36, h.2.2.fr F h7⟩
theorem CC.y {σ τ : Wd} {T : Txt} {P : Pl} {K : List Blk} {d ar : Nat → Nat} {sh : Shv} (h : CC σ T P K d ar sh) (F : FrY σ τ) : CC τ T P K d ar sh := by
  obtain ⟨⟨a1, a2, a3, a4⟩, ⟨b1, b2⟩, ⟨c1, c2⟩, ⟨d1, d2⟩, h5⟩ := h
  refine ⟨⟨((F 1 (by decide)).1 1).trans a1, a2, a3, fun i hi => ((F 14 (by decide)).1 i).trans (a4 i hi)⟩, ⟨((F 2 (by decide)).1 2).trans b1, fun i p hp => ⟨((F 15 (by decide)).1 i).trans (b2 i p hp).1, ((F 16 (by decide)).2 i).trans (b2 i p hp).2⟩⟩, ⟨((F 3 (by decide)).1 1).trans c1, fun i p hp => ((F 17 (by decide)).2 i).trans (c2 i p hp)⟩, ⟨fun k hk => ((F 30 (by decide)).1 k).trans (d1 k hk), fun k hk => ((F 31 (by decide)).1 k).trans (d2 k hk)⟩, fun k hk => (h5 k hk).eq (F (9 + k) (by omega)).1 (F (9 + k) (by omega)).2 (F (37 + k) (by omega)).2⟩
theorem CX.y {σ τ : Wd} {d ar : Nat → Nat} (h : CX σ d ar) (F : FrY σ τ) : CX τ d ar := by
  obtain ⟨h1, h2, h3⟩ := h
  have i1 := fun a (ha : a < 41) b => (F a ha).1 b
  refine ⟨fun k hk => by rw [i1 33 (by decide)]; exact h1 k hk, ?_, ?_⟩
  · rcases h2 with q | ⟨q, bs, v1, v2, v3, v4, v5⟩
    · left; rw [i1 6 (by decide)]; exact q
    · right
      exact ⟨by rw [i1 6 (by decide)]; exact q, bs, v1, v2, by rw [(F 6 (by decide)).2]; exact v3, by rw [i1 6 (by decide)]; exact v4, fun i hi => by rw [i1 36 (by decide)]; exact v5 i hi⟩
  · rcases h3 with q | ⟨q, W, ks, t, v1, v2, v3, v4, v5, v6, s1, s2, s3, s4, s5, s6, s7⟩
    · left; rw [i1 7 (by decide)]; exact q
    · right
      exact ⟨by rw [i1 7 (by decide)]; exact q, W, ks, t, v1, v2, v3, by rw [i1 7 (by decide)]; exact v4, by rw [i1 7 (by decide)]; exact v5, by rw [i1 7 (by decide)]; exact v6, by rw [i1 7 (by decide)]; exact s1, by rw [i1 7 (by decide)]; exact s2, by rw [i1 7 (by decide)]; exact s3, by rw [(F 7 (by decide)).2]; exact s4, s5, s6, s7⟩
theorem FrX.m {σ τ : Wd} (h : FrX σ τ) : FrM (List.range 41) [] σ τ := ⟨fun a ha _ b => (h a (by
  have : ¬ a < 41 := fun z => ha (List.mem_range.mpr z)
  omega)).1 b, fun b _ => (h 41 (by decide)).1 b, fun a ha b => (h a (by
  have : ¬ a < 41 := fun z => ha (List.mem_range.mpr z)
  omega)).2 b⟩
theorem MI.fr {σ τ : Wd} {ks fs : List Nat} {T : Txt} {P : Pl} {K : List Blk} {d ar : Nat → Nat} {sh : Shv} (h : MI σ T P K d ar sh) (F : FrM ks fs σ τ) (hk : ∀ a, a ∈ [42, 43, 44, 45, 46, 49, 50, 51, 52, 67, 68, 69, 70] → a ∉ ks) (hf : ∀ a, a ∈ [4, 8, 14] → a ∉ fs) : MI τ T P K d ar sh := by
  obtain ⟨h1, h2, h3, h4, h5⟩ := h
  refine ⟨h1.fr F (hf 8 (by decide)) (hk 46 (by decide)), h2.fr F (hf 4 (by decide)) (hk 42 (by decide)) (hk 43 (by decide)) (hk 44 (by decide)) (hk 45 (by decide)), h3.fr F (hf 14 (by decide)) (hk 49 (by decide)) (hk 50 (by decide)), h4.fr F (hk 51 (by decide)) (hk 52 (by decide)), fun k hk4 => ?_⟩
  have := h5 k hk4
  have i1 := F.i (hk 67 (by decide)) (by decide) k
  have i2 := F.i (hk 68 (by decide)) (by decide) k
  have i3 := fun b => F.i (hk 69 (by decide)) (by decide) b
  have i4 := fun b => F.l (hk 70 (by decide)) b
  match hs : sh k, this with
  | none, h => exact i1.trans h
  | some (.inl bs), h => exact ⟨i1.trans h.1, i2.trans h.2.1, fun i b hb => (i3 _).trans (h.2.2 i b hb)⟩
  | some (.inr (so, n, it)), h => exact ⟨i1.trans h.1, i2.trans h.2.1, fun i hi => (i4 _).trans (h.2.2 i hi)⟩
theorem MI.x {σ τ : Wd} {T : Txt} {P : Pl} {K : List Blk} {d ar : Nat → Nat} {sh : Shv} (h : MI σ T P K d ar sh) (F : FrX σ τ) : MI τ T P K d ar sh := h.fr F.m (by decide) (by decide)
def SStep {β : Type} (fx fm : Wd → Option (β × Wd)) (σ : Wd) : Prop := ∃ r σ1 σ2, fx σ = some (r, σ1) ∧ fm σ1 = some (r, σ2) ∧ SRel σ2
theorem SStep.ref {β : Type} {fx fm : Wd → Option (β × Wd)} {σ : Wd} (h : SRel σ) {r : β} (e1 : fx σ = some (r, σ)) (e2 : fm σ = some (r, σ)) : SStep fx fm σ := ⟨r, σ, σ, e1, e2, h⟩
theorem SStep.mk {β : Type} {fx fm : Wd → Option (β × Wd)} {σ : Wd} {T T' : Txt} {P P' : Pl} {K K' : List Blk} {d ar d' ar' : Nat → Nat} {sh sh' : Shv} (hM : MI σ T P K d ar sh) (hW : WSt T' P' K' d' ar' sh') {r : β} {σ1 : Wd} (e1 : fx σ = some (r, σ1)) (hX : FrX σ σ1) (hC : CC σ1 T' P' K' d' ar' sh') (hCX : CX σ1 d' ar') (h2 : ∀ τ, MI τ T P K d ar sh → ∃ σ2, fm τ = some (r, σ2) ∧ FrY τ σ2 ∧ MI σ2 T' P' K' d' ar' sh') : SStep fx fm σ := by
  obtain ⟨σ2, e2, Y, M2⟩ := h2 σ1 (hM.x hX)
  exact ⟨r, σ1, σ2, e1, e2, T', P', K', d', ar', sh', hW, hC.y Y, hCX.y Y, M2⟩
end
