-- memory and small numbers
theorem litI (n : Nat) : (OfNat.ofNat n : Int32) = nI n := rfl
theorem litJ (n : Nat) : (OfNat.ofNat n : Int64) = lN n := rfl
theorem sF_1 (σ : Wd) (k n : Nat) (x : Int32) (a b : Nat) : (sF σ k n x).1 a b = if a = k then (if b = n then x else σ.1 a b) else σ.1 a b := rfl
theorem sF_2 (σ : Wd) (k n : Nat) (x : Int32) : (sF σ k n x).2 = σ.2 := rfl
theorem sG_1 (σ : Wd) (k n : Nat) (x : Int64) : (sG σ k n x).1 = σ.1 := rfl
theorem sG_2 (σ : Wd) (k n : Nat) (x : Int64) (a b : Nat) : (sG σ k n x).2 a b = if a = k then (if b = n then x else σ.2 a b) else σ.2 a b := rfl
theorem sF_ne {σ : Wd} {k n : Nat} {x : Int32} {a b : Nat} (h : a ≠ k) : (sF σ k n x).1 a b = σ.1 a b := by rw [sF_1, if_neg h]
theorem sF_nb {σ : Wd} {k n : Nat} {x : Int32} {b : Nat} (h : b ≠ n) : (sF σ k n x).1 k b = σ.1 k b := by rw [sF_1, if_pos rfl, if_neg h]
theorem sF_eq {σ : Wd} {k n : Nat} {x : Int32} : (sF σ k n x).1 k n = x := by rw [sF_1, if_pos rfl, if_pos rfl]
theorem nI_bd {n i : Nat} (h : i < n) (hn : n < 2 ^ 31) : ¬ (nI i < 0 ∨ n ≤ (nI i).toNatClampNeg) := nI_in h hn
theorem xld_n {σ : Wd} {k n i : Nat} (h : i < n) (hn : n < 2147483648) : xld σ k n (nI i) = some (σ.1 k i) := by
  unfold xld
  rw [if_neg (nI_bd h hn), nI_clamp (by omega)]
theorem xldL_n {σ : Wd} {k n i : Nat} (h : i < n) (hn : n < 2147483648) : xldL σ k n (nI i) = some (σ.2 k i) := by
  unfold xldL
  rw [if_neg (nI_bd h hn), nI_clamp (by omega)]
theorem xst_n {σ : Wd} {k n i : Nat} {x : Int32} (h : i < n) (hn : n < 2147483648) : xst σ k n (nI i) x = some (sF σ k i x) := by
  unfold xst
  rw [if_neg (nI_bd h hn), nI_clamp (by omega)]
theorem xstL_n {σ : Wd} {k n i : Nat} {x : Int64} (h : i < n) (hn : n < 2147483648) : xstL σ k n (nI i) x = some (sG σ k i x) := by
  unfold xstL
  rw [if_neg (nI_bd h hn), nI_clamp (by omega)]
theorem xstZ_n {σ : Wd} {k n i : Nat} {x : Int32} (hx : x = 0 ∨ x = 1) (h : i < n) (hn : n < 2147483648) : xstZ σ k n (nI i) x = some (sF σ k i x) := by
  unfold xstZ
  rw [if_pos hx, xst_n h hn]
theorem nLe {a b : Nat} (ha : a < 2147483648) (hb : b < 2147483648) : (nI a ≤ nI b) ↔ a ≤ b := nI_leI ha hb
theorem nLt {a b : Nat} (ha : a < 2147483648) (hb : b < 2147483648) : (nI a < nI b) ↔ a < b := nI_ltI ha hb
theorem nEq {a b : Nat} (ha : a < 2147483648) (hb : b < 2147483648) : (nI a = nI b) ↔ a = b := nI_eq ha hb
theorem obind {α β : Type} (a : α) (f : α → Option β) : (some a).bind f = f a := rfl
theorem nDiv2 {a : Nat} (ha : a < 2147483648) : nI a / nI 2 = nI (a / 2) := pk_div ha (by decide) (by decide)
theorem nM1 {a : Nat} (h : 0 < a) : nI a + (-1) = nI (a - 1) := sb_m1 h
theorem nSub {a b : Nat} (h : b ≤ a) : nI a - nI b = nI (a - b) := pk_sub h
theorem neg_lt (a : Nat) (ha : a < 2147483648) : ¬ nI a < nI 0 := by rw [nLt ha (by decide)]; omega
