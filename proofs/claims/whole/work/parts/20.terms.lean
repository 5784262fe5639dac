/-! Terms of gates as numbers: 0..11 A, 12..23 B, 24 the carry, 25 zero, 26 one; the others by kind and an unordered pair of parts. -/
def sp (a b : Nat) : Nat := (a + b) * (a + b) + min a b
theorem sp_comm (a b : Nat) : sp a b = sp b a := by unfold sp; rw [Nat.add_comm a b, Nat.min_comm a b]
theorem sq_le {a b : Nat} (h : a ≤ b) : a * a ≤ b * b := Nat.mul_le_mul h h
theorem sq_lt {a b : Nat} (h : a < b) : a * a + 2 * a < b * b := by
  have h1 := sq_le (show a + 1 ≤ b from h)
  have h2 : (a + 1) * (a + 1) = a * a + 2 * a + 1 := by rw [Nat.add_mul, Nat.mul_add]; omega
  omega
def isqF : Nat → Nat → Nat
  | 0, _ => 0
  | n + 1, s => if (n + 1) * (n + 1) ≤ s then n + 1 else isqF n s
theorem isqF_le : ∀ n s, isqF n s * isqF n s ≤ s
  | 0, s => by simp [isqF]
  | n + 1, s => by
    unfold isqF
    split
    · assumption
    · exact isqF_le n s
theorem isqF_eq {m r : Nat} (hr : r ≤ 2 * m) : ∀ n, m ≤ n → isqF n (m * m + r) = m
  | 0, h => by have : m = 0 := by omega
               subst this; rfl
  | n + 1, h => by
    unfold isqF
    by_cases hm : m = n + 1
    · subst hm; rw [if_pos (by omega)]
    · have h2 : m < n + 1 := by omega
      have h3 := sq_lt h2
      rw [if_neg (by omega)]
      exact isqF_eq hr n (by omega)
def isq (s : Nat) : Nat := isqF s s
theorem isq_le (s : Nat) : isq s * isq s ≤ s := isqF_le s s
theorem le_sq (a : Nat) : a ≤ a * a := by
  cases a with
  | zero => exact Nat.le_refl _
  | succ n => exact Nat.le_mul_of_pos_left _ (by omega)
theorem isq_sp (a b : Nat) : isq (sp a b) = a + b := by
  unfold isq sp
  have := le_sq (a + b)
  exact isqF_eq (by omega) _ (by omega)
def mkT (k a b : Nat) : Nat := 27 + k + 4 * sp a b
def tK (t : Nat) : Nat := (t - 27) % 4
def tS (t : Nat) : Nat := (t - 27) / 4
def tA (t : Nat) : Nat := tS t - isq (tS t) * isq (tS t)
def tB (t : Nat) : Nat := isq (tS t) - tA t
theorem tK_mk {k : Nat} (a b : Nat) (hk : k < 4) : tK (mkT k a b) = k := by unfold tK mkT; omega
theorem tS_mk {k : Nat} (a b : Nat) (hk : k < 4) : tS (mkT k a b) = sp a b := by unfold tS mkT; omega
theorem tA_mk {k : Nat} (a b : Nat) (hk : k < 4) : tA (mkT k a b) = min a b := by
  unfold tA; rw [tS_mk a b hk, isq_sp]; unfold sp; omega
theorem tB_mk {k : Nat} (a b : Nat) (hk : k < 4) : tB (mkT k a b) = max a b := by
  unfold tB; rw [tA_mk a b hk, tS_mk a b hk, isq_sp]; omega
theorem mkT_ge (k a b : Nat) : 27 ≤ mkT k a b := by unfold mkT; omega
theorem mkT_comm (k a b : Nat) : mkT k a b = mkT k b a := by unfold mkT; rw [sp_comm]
theorem mkT_gtl (k a b : Nat) : a < mkT k a b := by
  unfold mkT sp
  have := le_sq (a + b)
  omega
theorem mkT_gtr (k a b : Nat) : b < mkT k a b := by rw [mkT_comm]; exact mkT_gtl k b a
theorem mkT_inj {k k' a b c d : Nat} (hk : k < 4) (hk' : k' < 4) (h : mkT k a b = mkT k' c d) : k = k' ∧ ((a = c ∧ b = d) ∨ (a = d ∧ b = c)) := by
  have h1 : k = k' := by have := congrArg tK h; rwa [tK_mk a b hk, tK_mk c d hk'] at this
  have h2 : min a b = min c d := by have := congrArg tA h; rwa [tA_mk a b hk, tA_mk c d hk'] at this
  have h3 : max a b = max c d := by have := congrArg tB h; rwa [tB_mk a b hk, tB_mk c d hk'] at this
  refine ⟨h1, ?_⟩
  omega
theorem tS_lt {t : Nat} (h : 27 ≤ t) : tS t < t := by unfold tS; omega
theorem tA_lt {t : Nat} (h : 27 ≤ t) : tA t < t := by have := tS_lt h; unfold tA; omega
theorem tB_lt {t : Nat} (h : 27 ≤ t) : tB t < t := by
  have h1 := tS_lt h
  have h2 := isq_le (tS t)
  have h3 := le_sq (isq (tS t))
  unfold tB; omega
section FOLD
variable {α : Type}
def foldF (L : Nat → α) (F : Nat → α → α → α) : Nat → Nat → α
  | 0, t => L t
  | n + 1, t => if t < 27 then L t else F (tK t) (foldF L F n (tA t)) (foldF L F n (tB t))
theorem foldF_fuel (L : Nat → α) (F : Nat → α → α → α) : ∀ (n m t : Nat), t < n → t < m → foldF L F n t = foldF L F m t
  | 0, m, t, h1, h2 => absurd h1 (Nat.not_lt_zero t)
  | n + 1, 0, t, h1, h2 => absurd h2 (Nat.not_lt_zero t)
  | n + 1, m + 1, t, h1, h2 => by
    unfold foldF
    by_cases ht : t < 27
    · rw [if_pos ht, if_pos ht]
    · rw [if_neg ht, if_neg ht]
      have ha := tA_lt (show 27 ≤ t by omega)
      have hb := tB_lt (show 27 ≤ t by omega)
      rw [foldF_fuel L F n m (tA t) (by omega) (by omega), foldF_fuel L F n m (tB t) (by omega) (by omega)]
/-- a function of terms by recursion over their parts -/
def fold (L : Nat → α) (F : Nat → α → α → α) (t : Nat) : α := foldF L F (t + 1) t
theorem fold_leaf {L : Nat → α} {F : Nat → α → α → α} {t : Nat} (h : t < 27) : fold L F t = L t := by
  unfold fold foldF; rw [if_pos h]
theorem fold_mk {L : Nat → α} {F : Nat → α → α → α} (hF : ∀ k x y, F k x y = F k y x) {k : Nat} (hk : k < 4) (a b : Nat) : fold L F (mkT k a b) = F k (fold L F a) (fold L F b) := by
  have hge := mkT_ge k a b
  unfold fold
  rw [foldF, if_neg (by omega), tK_mk a b hk, tA_mk a b hk, tB_mk a b hk]
  have hl := mkT_gtl k a b
  have hr := mkT_gtr k a b
  rcases Nat.le_total a b with h | h
  · rw [Nat.min_eq_left h, Nat.max_eq_right h, foldF_fuel L F (mkT k a b) (a + 1) a hl (by omega), foldF_fuel L F (mkT k a b) (b + 1) b hr (by omega)]
  · rw [Nat.min_eq_right h, Nat.max_eq_left h, foldF_fuel L F (mkT k a b) (a + 1) a hl (by omega), foldF_fuel L F (mkT k a b) (b + 1) b hr (by omega), hF]
end FOLD
-- what is made of gates
def tNot (x : Nat) : Nat := if x = 25 then 26 else if x = 26 then 25 else if 27 ≤ x ∧ tK x = 0 then tA x else mkT 0 x x
def tAnd (x y : Nat) : Nat := if x = 25 ∨ y = 25 then 25 else if x = 26 then y else if y = 26 ∨ x = y then x else mkT 1 x y
def tOr (x y : Nat) : Nat := if x = 26 ∨ y = 26 then 26 else if x = 25 then y else if y = 25 ∨ x = y then x else mkT 2 x y
def tXor (x y : Nat) : Nat := if x = y then 25 else if x = 25 then y else if y = 25 then x else if x = 26 then tNot y else if y = 26 then tNot x else mkT 3 x y
theorem tAnd_comm (x y : Nat) : tAnd x y = tAnd y x := by
  unfold tAnd
  by_cases h1 : x = 25 <;> by_cases h2 : y = 25 <;> by_cases h3 : x = 26 <;> by_cases h4 : y = 26 <;> by_cases h5 : x = y <;> simp_all [mkT_comm] <;> (intro e; exact absurd e.symm h5)
theorem tOr_comm (x y : Nat) : tOr x y = tOr y x := by
  unfold tOr
  by_cases h1 : x = 25 <;> by_cases h2 : y = 25 <;> by_cases h3 : x = 26 <;> by_cases h4 : y = 26 <;> by_cases h5 : x = y <;> simp_all [mkT_comm] <;> (intro e; exact absurd e.symm h5)
theorem tXor_comm (x y : Nat) : tXor x y = tXor y x := by
  unfold tXor
  by_cases h1 : x = 25 <;> by_cases h2 : y = 25 <;> by_cases h3 : x = 26 <;> by_cases h4 : y = 26 <;> by_cases h5 : x = y <;> simp_all [mkT_comm] <;> omega
theorem tNot_not (x : Nat) (h0 : x ≠ 25) (h1 : x ≠ 26) (h : ¬ (27 ≤ x ∧ tK x = 0)) : tNot (mkT 0 x x) = x := by
  have hg := mkT_ge 0 x x
  unfold tNot
  rw [if_neg (by omega), if_neg (by omega), if_pos ⟨hg, tK_mk x x (by omega)⟩, tA_mk x x (by omega), Nat.min_self]
-- blocks: (kind, width) each; the terms of their sums and carries
abbrev Blk : Type := List (Nat × Nat)
def tP (i : Nat) : Nat := tXor i (12 + i)
def tG (i : Nat) : Nat := tAnd i (12 + i)
def rcar (lo c : Nat) : Nat → Nat
  | 0 => c
  | k + 1 => tOr (tG (lo + k)) (tAnd (tP (lo + k)) (rcar lo c k))
def rsum (lo c i : Nat) : Nat := tXor (tP i) (rcar lo c (i - lo))
def tAll (lo : Nat) : Nat → Nat
  | 0 => tP lo
  | k + 1 => tAnd (tAll lo k) (tP (lo + (k + 1)))
def spP : Nat → Nat → Nat → Nat
  | 0, i, _ => tP i
  | n + 1, i, j => if j ≤ i then tP i else tAnd (spP n i ((i + j) / 2)) (spP n ((i + j) / 2 + 1) j)
def spG : Nat → Nat → Nat → Nat
  | 0, i, _ => tG i
  | n + 1, i, j => if j ≤ i then tG i else tOr (spG n ((i + j) / 2 + 1) j) (tAnd (spP n ((i + j) / 2 + 1) j) (spG n i ((i + j) / 2)))
/-- the carry into bit lo + k by looking ahead -/
def lcar (lo c : Nat) : Nat → Nat
  | 0 => c
  | k + 1 => tOr (spG 8 lo (lo + k)) (tAnd (spP 8 lo (lo + k)) c)
def bsum (kind lo c i : Nat) : Nat :=
  if kind = 2 then tOr (tAnd (rsum lo 26 i) c) (tAnd (rsum lo 25 i) (tNot c))
  else if kind = 3 then tXor (tP i) (lcar lo c (i - lo))
  else rsum lo c i
def bcar (kind lo w c : Nat) : Nat :=
  if kind = 0 then rcar lo c w
  else if kind = 1 then tOr (rcar lo c w) (tAnd (tAll lo (w - 1)) c)
  else if kind = 2 then tOr (rcar lo 25 w) (tAnd (rcar lo 26 w) c)
  else lcar lo c w
abbrev NSt : Type := Nat × Nat × (Nat → Nat)
def nstep (n : NSt) (b : Nat × Nat) : NSt := (n.1 + b.2, bcar b.1 n.1 b.2 n.2.1, fun i => if n.1 ≤ i ∧ i < n.1 + b.2 then bsum b.1 n.1 n.2.1 i else n.2.2 i)
def nst0 : NSt := (0, 24, fun _ => 0)
def nets (bs : Blk) : NSt := bs.foldl nstep nst0
def wid (bs : Blk) : Nat := (bs.map (·.2)).sum
/-- the outcomes 0 .. width -/
def outT (n : NSt) (i : Nat) : Nat := if i < n.1 then n.2.2 i else n.2.1
