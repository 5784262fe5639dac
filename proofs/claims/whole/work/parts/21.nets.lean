/-! Nets as rows of gates: what holds of any net whose gates are there once. -/
/-- n gates (with the 27 leaves), kinds, parts, and the term of each -/
def NT (lf : Nat → Nat) (n : Nat) (kd l r den : Nat → Nat) : Prop :=
  27 ≤ n ∧ (∀ k, k < 27 → den k = lf k) ∧ (∀ k, 27 ≤ k → k < n → kd k < 4 ∧ l k < k ∧ r k < k ∧ den k = mkT (kd k) (den (l k)) (den (r k))) ∧ (∀ j k, j < n → k < n → den j = den k → j = k)
def LF (lf : Nat → Nat) : Prop := (∀ k, k < 27 → lf k < 27) ∧ (∀ j k, j < 27 → k < 27 → lf j = lf k → j = k)
theorem net_fold {α : Type} {lf : Nat → Nat} {n : Nat} {kd l r den : Nat → Nat} (h : NT lf n kd l r den) (hlf : LF lf) {L : Nat → α} {F : Nat → α → α → α} (hF : ∀ k x y, F k x y = F k y x) {v : Nat → α} (h0 : ∀ k, k < 27 → v k = L (lf k)) (h1 : ∀ k, 27 ≤ k → k < n → v k = F (kd k) (v (l k)) (v (r k))) : ∀ k, k < n → v k = fold L F (den k) := by
  intro k
  induction k using Nat.strongRecOn with
  | _ k ih =>
    intro hk
    by_cases hk2 : k < 27
    · rw [h0 k hk2, h.2.1 k hk2, fold_leaf (hlf.1 k hk2)]
    · obtain ⟨a1, a2, a3, a4⟩ := h.2.2.1 k (by omega) hk
      rw [h1 k (by omega) hk, a4, fold_mk hF a1, ih _ a2 (by omega), ih _ a3 (by omega)]
/-- subterms -/
def subF : Nat → Nat × (Nat → Prop) := fold (fun t => (t, fun s => s = t)) (fun k x y => (mkT k x.1 y.1, fun s => s = mkT k x.1 y.1 ∨ x.2 s ∨ y.2 s))
def sub (s t : Nat) : Prop := (subF t).2 s
theorem subF_sym : ∀ (k : Nat) (x y : Nat × (Nat → Prop)), ((mkT k x.1 y.1, fun s => s = mkT k x.1 y.1 ∨ x.2 s ∨ y.2 s) : Nat × (Nat → Prop)) = (mkT k y.1 x.1, fun s => s = mkT k y.1 x.1 ∨ y.2 s ∨ x.2 s) := by
  intro k x y
  rw [mkT_comm k y.1 x.1]
  congr 1
  funext s
  exact propext ⟨fun h => h.elim Or.inl (fun h => Or.inr h.symm), fun h => h.elim Or.inl (fun h => Or.inr h.symm)⟩
theorem subF_leaf {t : Nat} (h : t < 27) : subF t = (t, fun s => s = t) := fold_leaf h
theorem subF_mk {k : Nat} (hk : k < 4) (a b : Nat) : subF (mkT k a b) = (mkT k (subF a).1 (subF b).1, fun s => s = mkT k (subF a).1 (subF b).1 ∨ (subF a).2 s ∨ (subF b).2 s) := fold_mk subF_sym hk a b
theorem den_sub1 {lf : Nat → Nat} {n : Nat} {kd l r den : Nat → Nat} (h : NT lf n kd l r den) (hlf : LF lf) : ∀ k, k < n → (subF (den k)).1 = den k := by
  intro k
  induction k using Nat.strongRecOn with
  | _ k ih =>
    intro hk
    by_cases hk2 : k < 27
    · rw [h.2.1 k hk2, subF_leaf (hlf.1 k hk2)]
    · obtain ⟨a1, a2, a3, a4⟩ := h.2.2.1 k (by omega) hk
      rw [a4, subF_mk a1, ih _ a2 (by omega), ih _ a3 (by omega)]
theorem sub_leaf {lf : Nat → Nat} {n : Nat} {kd l r den : Nat → Nat} (h : NT lf n kd l r den) (hlf : LF lf) {k : Nat} (hk : k < 27) (s : Nat) : sub s (den k) ↔ s = den k := by
  unfold sub
  rw [h.2.1 k hk, subF_leaf (hlf.1 k hk)]
theorem sub_gate {lf : Nat → Nat} {n : Nat} {kd l r den : Nat → Nat} (h : NT lf n kd l r den) (hlf : LF lf) {k : Nat} (hk : 27 ≤ k) (hn : k < n) (s : Nat) : sub s (den k) ↔ s = den k ∨ sub s (den (l k)) ∨ sub s (den (r k)) := by
  obtain ⟨a1, a2, a3, a4⟩ := h.2.2.1 k hk hn
  unfold sub
  rw [a4, subF_mk a1, den_sub1 h hlf _ (by omega : l k < n), den_sub1 h hlf _ (by omega : r k < n)]
theorem sub_self {lf : Nat → Nat} {n : Nat} {kd l r den : Nat → Nat} (h : NT lf n kd l r den) (hlf : LF lf) {k : Nat} (hn : k < n) : sub (den k) (den k) := by
  by_cases hk : k < 27
  · exact (sub_leaf h hlf hk _).mpr rfl
  · exact (sub_gate h hlf (by omega) hn _).mpr (Or.inl rfl)
/-- gates marked as used: downward from the outcomes -/
theorem marks_ok {lf : Nat → Nat} {n : Nat} {kd l r den : Nat → Nat} (h : NT lf n kd l r den) (hlf : LF lf) {T : Nat → Prop} {u : Nat → Prop}
    (ha : ∀ j, j < n → u j → ∃ o, o < n ∧ T o ∧ sub (den j) (den o)) (hb : ∀ o, o < n → T o → u o) (hc : ∀ p, 27 ≤ p → p < n → u p → u (l p) ∧ u (r p)) : ∀ j, j < n → (u j ↔ ∃ o, o < n ∧ T o ∧ sub (den j) (den o)) := by
  have key : ∀ p, p < n → u p → ∀ s, sub s (den p) → ∃ j, j < n ∧ s = den j ∧ u j := by
    intro p
    induction p using Nat.strongRecOn with
    | _ p ih =>
      intro hp hu s hs
      by_cases hp2 : p < 27
      · exact ⟨p, hp, (sub_leaf h hlf hp2 s).mp hs, hu⟩
      · obtain ⟨a1, a2, a3, -⟩ := h.2.2.1 p (by omega) hp
        obtain ⟨c1, c2⟩ := hc p (by omega) hp hu
        rcases (sub_gate h hlf (by omega) hp s).mp hs with e | e | e
        · exact ⟨p, hp, e, hu⟩
        · exact ih _ a2 (by omega) c1 s e
        · exact ih _ a3 (by omega) c2 s e
  intro j hj
  refine ⟨ha j hj, fun ⟨o, h1, h2, h3⟩ => ?_⟩
  obtain ⟨i, i1, i2, i3⟩ := key o h1 (hb o h1 h2) _ h3
  rw [h.2.2.2 j i hj i1 i2]
  exact i3
/-- every subterm of a gate's term is a gate's -/
theorem sub_den {lf : Nat → Nat} {n : Nat} {kd l r den : Nat → Nat} (h : NT lf n kd l r den) (hlf : LF lf) : ∀ p, p < n → ∀ s, sub s (den p) → ∃ j, j ≤ p ∧ s = den j := by
  intro p
  induction p using Nat.strongRecOn with
  | _ p ih =>
    intro hp s hs
    by_cases hp2 : p < 27
    · exact ⟨p, Nat.le_refl p, (sub_leaf h hlf hp2 s).mp hs⟩
    · obtain ⟨a1, a2, a3, -⟩ := h.2.2.1 p (by omega) hp
      rcases (sub_gate h hlf (by omega) hp s).mp hs with e | e | e
      · exact ⟨p, Nat.le_refl p, e⟩
      · obtain ⟨j, j1, j2⟩ := ih _ a2 (by omega) s e; exact ⟨j, by omega, j2⟩
      · obtain ⟨j, j1, j2⟩ := ih _ a3 (by omega) s e; exact ⟨j, by omega, j2⟩
/-- how many numbers have a property, where a list has just these -/
noncomputable def cntP (P : Nat → Prop) : Nat := by
  classical
  exact if h : ∃ L : List Nat, L.Nodup ∧ ∀ s, s ∈ L ↔ P s then (Classical.choose h).length else 0
theorem nodup_le {α : Type} [DecidableEq α] : ∀ (a b : List α), a.Nodup → (∀ x, x ∈ a → x ∈ b) → a.length ≤ b.length
  | [], b, _, _ => Nat.zero_le _
  | x :: a, b, hn, hs => by
    have hx : x ∈ b := hs x List.mem_cons_self
    have hn2 := List.nodup_cons.mp hn
    have h1 := nodup_le a (b.erase x) hn2.2 (fun z hz => by
      have hzx : z ≠ x := fun e => hn2.1 (e ▸ hz)
      exact (List.mem_erase_of_ne hzx).mpr (hs z (List.mem_cons_of_mem _ hz)))
    have h2 := List.length_erase_of_mem hx
    have h3 := List.length_pos_of_mem hx
    simp only [List.length_cons]
    omega
theorem cntP_eq {P : Nat → Prop} {L : List Nat} (hn : L.Nodup) (hL : ∀ s, s ∈ L ↔ P s) : cntP P = L.length := by
  have h : ∃ L : List Nat, L.Nodup ∧ ∀ s, s ∈ L ↔ P s := ⟨L, hn, hL⟩
  unfold cntP
  rw [dif_pos h]
  obtain ⟨c1, c2⟩ := Classical.choose_spec h
  exact Nat.le_antisymm (nodup_le _ _ c1 (fun x hx => (hL x).mpr ((c2 x).mp hx))) (nodup_le _ _ hn (fun x hx => (c2 x).mpr ((hL x).mp hx)))
theorem nodup_map {α β : Type} {f : α → β} : ∀ (l : List α), l.Nodup → (∀ x, x ∈ l → ∀ y, y ∈ l → f x = f y → x = y) → (l.map f).Nodup
  | [], _, _ => List.nodup_nil
  | a :: l, hn, hf => by
    have hn2 := List.nodup_cons.mp hn
    rw [List.map_cons]
    refine List.nodup_cons.mpr ⟨fun hm => ?_, nodup_map l hn2.2 (fun x hx y hy => hf x (List.mem_cons_of_mem _ hx) y (List.mem_cons_of_mem _ hy))⟩
    obtain ⟨y, hy, he⟩ := List.mem_map.mp hm
    have := hf y (List.mem_cons_of_mem _ hy) a List.mem_cons_self he
    subst this
    exact hn2.1 hy
/-- the used gates counted by their numbers are the used terms -/
theorem cnt_net {lf : Nat → Nat} {n : Nat} {kd l r den : Nat → Nat} (h : NT lf n kd l r den) (hlf : LF lf) {P : Nat → Prop} {f : Nat → Bool} (hP : ∀ s, P s → ∃ j, 27 ≤ j ∧ j < n ∧ s = den j) (hf : ∀ j, 27 ≤ j → j < n → (f j = true ↔ P (den j))) : cntP P = ((List.range n).filter (fun j => decide (27 ≤ j) && f j)).length := by
  have h1 := cntP_eq (P := P) (L := ((List.range n).filter (fun j => decide (27 ≤ j) && f j)).map den) ?_ ?_
  · rw [h1, List.length_map]
  · refine nodup_map _ (List.nodup_range.sublist List.filter_sublist) ?_
    intro x hx y hy he
    exact h.2.2.2 x y (List.mem_range.mp (List.mem_filter.mp hx).1) (List.mem_range.mp (List.mem_filter.mp hy).1) he
  · intro s
    rw [List.mem_map]
    constructor
    · rintro ⟨j, hj, rfl⟩
      obtain ⟨j1, j2⟩ := List.mem_filter.mp hj
      simp only [Bool.and_eq_true, decide_eq_true_eq] at j2
      exact (hf j j2.1 (List.mem_range.mp j1)).mp j2.2
    · intro hs
      obtain ⟨j, j1, j2, rfl⟩ := hP s hs
      refine ⟨j, List.mem_filter.mpr ⟨List.mem_range.mpr j2, ?_⟩, rfl⟩
      simp only [Bool.and_eq_true, decide_eq_true_eq]
      exact ⟨j1, (hf j j1 j2).mpr hs⟩
-- times, depths, values
def tmL (ar : Nat → Nat) (t : Nat) : Nat := if t ≤ 24 then ar t else 0
def TM (d ar : Nat → Nat) : Nat → Nat := fold (tmL ar) (fun k x y => d k + max x y)
/-- times and chains -/
def DP (d ar : Nat → Nat) : Nat → Nat × Nat := fold (fun t => (tmL ar t, 0)) (fun k x y => (d k + max x.1 y.1, 1 + max (if x.1 = max x.1 y.1 then x.2 else 0) (if y.1 = max x.1 y.1 then y.2 else 0)))
/-- times, and the leaves on which a term hangs -/
def HG (d ar : Nat → Nat) : Nat → Nat × (Nat → Prop) := fold (fun t => (tmL ar t, fun i => i = t)) (fun k x y => (d k + max x.1 y.1, fun i => (x.1 = max x.1 y.1 ∧ x.2 i) ∨ (y.1 = max x.1 y.1 ∧ y.2 i)))
def vaL (a b c : Nat) (t : Nat) : Nat := if t < 12 then a / 2 ^ t % 2 else if t < 24 then b / 2 ^ (t - 12) % 2 else if t = 24 then c else if t = 25 then 0 else 1
def vaF (k x y : Nat) : Nat := if k = 0 then 1 - min x y else if k = 1 then x * y else if k = 2 then max x y else (x + y) % 2
def VA (a b c : Nat) : Nat → Nat := fold (vaL a b c) vaF
/-- values, and when they settle -/
def stF (d : Nat → Nat) (k : Nat) (x y : Nat × Nat) : Nat × Nat :=
  (vaF k x.1 y.1, d k + (if k = 1 ∧ x.1 * y.1 = 0 then (if x.1 = 0 ∧ y.1 = 0 then min x.2 y.2 else if x.1 = 0 then x.2 else y.2)
    else if k = 2 ∧ max x.1 y.1 = 1 then (if x.1 = 1 ∧ y.1 = 1 then min x.2 y.2 else if x.1 = 1 then x.2 else y.2) else max x.2 y.2))
def ST (d ar : Nat → Nat) (a b c : Nat) : Nat → Nat × Nat := fold (fun t => (vaL a b c t, tmL ar t)) (stF d)
theorem TM_sym (d : Nat → Nat) : ∀ k x y, (fun k x y => d k + max x y) k x y = (fun k x y => d k + max x y) k y x := fun k x y => by
  show d k + max x y = d k + max y x
  rw [Nat.max_comm]
