theorem wb_tb (n : Nat) : (lN n).toBitVec = BitVec.ofNat 64 n := rfl
theorem wb_inj {a b : Int64} (h : a.toBitVec = b.toBitVec) : a = b := Int64.toBitVec_inj.mp h
theorem wb_tn {n : Nat} (h : n < 2 ^ 64) : (lN n).toBitVec.toNat = n := by rw [wb_tb, BitVec.toNat_ofNat, Nat.mod_eq_of_lt h]
theorem wb_of (x : Int64) : ∃ n, n < 2 ^ 64 ∧ x = lN n := ⟨x.toBitVec.toNat, x.toBitVec.isLt, wb_inj (by rw [wb_tb]; simp)⟩
theorem wb_of32 (x : Int32) : ∃ n, n < 2 ^ 32 ∧ x = nI n := ⟨x.toBitVec.toNat, x.toBitVec.isLt, Int32.toBitVec_inj.mp (by show _ = BitVec.ofNat 32 _; simp)⟩
theorem wb_c : ∀ k, k < 64 → ((nI k).toInt64 &&& 63) = lN k := by decide +kernel
theorem wb_cu : ∀ k, k < 64 → ((nI k).toInt64.toUInt64 &&& Int64.toUInt64 63) = UInt64.ofNat k := by decide +kernel
theorem wb_sm : ∀ k, k < 64 → (BitVec.ofNat 64 k).smod 64 = BitVec.ofNat 64 k := by decide +kernel
theorem wb_pw {a b : Nat} (h : a ≤ b) : 2 ^ b = 2 ^ a * 2 ^ (b - a) := by rw [← Nat.pow_add]; congr 1; omega
theorem wb_lt2 {a b : Nat} (h : a < b) : 2 ^ a < 2 ^ b := Nat.pow_lt_pow_right (by decide) h
theorem wb_mod (n : Nat) : lN n = lN (n % 2 ^ 64) := wb_inj (by rw [wb_tb, wb_tb]; apply BitVec.eq_of_toNat_eq; rw [BitVec.toNat_ofNat, BitVec.toNat_ofNat, Nat.mod_mod])
theorem wb_shr {n k : Nat} (hn : n < 2 ^ 64) (hk : k < 64) : ((lN n).toUInt64 >>> ((nI k).toInt64.toUInt64 &&& Int64.toUInt64 63)).toInt64 = lN (n / 2 ^ k) := by
  rw [wb_cu k hk]
  apply wb_inj
  apply BitVec.eq_of_toNat_eq
  show ((lN n).toUInt64 >>> UInt64.ofNat k).toNat = (BitVec.ofNat 64 _).toNat
  have h1 : (UInt64.ofNat k).toNat = k := by
    show (BitVec.ofNat 64 k).toNat = k
    rw [BitVec.toNat_ofNat, Nat.mod_eq_of_lt (by omega)]
  have h2 : (lN n).toUInt64.toNat = n := wb_tn hn
  rw [UInt64.toNat_shiftRight, h1, h2, Nat.mod_eq_of_lt hk, Nat.shiftRight_eq_div_pow, BitVec.toNat_ofNat, Nat.mod_eq_of_lt (Nat.lt_of_le_of_lt (Nat.div_le_self _ _) hn)]
theorem wb_shl (n : Nat) {k : Nat} (hk : k < 64) : lN n <<< ((nI k).toInt64 &&& 63) = lN (n * 2 ^ k) := by
  rw [wb_c k hk]
  apply wb_inj
  rw [Int64.toBitVec_shiftLeft, wb_tb, wb_tb, wb_tb, wb_sm k hk]
  apply BitVec.eq_of_toNat_eq
  rw [BitVec.shiftLeft_eq', BitVec.toNat_shiftLeft, BitVec.toNat_ofNat, BitVec.toNat_ofNat, BitVec.toNat_ofNat, Nat.mod_eq_of_lt (show k < 2 ^ 64 by omega), Nat.shiftLeft_eq, Nat.mul_mod, Nat.mod_mod, ← Nat.mul_mod]
theorem wb_and {a b : Nat} (ha : a < 2 ^ 64) (hb : b < 2 ^ 64) : lN a &&& lN b = lN (a &&& b) := by
  apply wb_inj
  rw [Int64.toBitVec_and, wb_tb, wb_tb, wb_tb]
  apply BitVec.eq_of_toNat_eq
  rw [BitVec.toNat_and, BitVec.toNat_ofNat, BitVec.toNat_ofNat, BitVec.toNat_ofNat, Nat.mod_eq_of_lt ha, Nat.mod_eq_of_lt hb, Nat.mod_eq_of_lt (Nat.and_lt_two_pow _ hb)]
theorem wb_or {a b : Nat} (ha : a < 2 ^ 64) (hb : b < 2 ^ 64) : lN a ||| lN b = lN (a ||| b) := by
  apply wb_inj
  rw [Int64.toBitVec_or, wb_tb, wb_tb, wb_tb]
  apply BitVec.eq_of_toNat_eq
  rw [BitVec.toNat_or, BitVec.toNat_ofNat, BitVec.toNat_ofNat, BitVec.toNat_ofNat, Nat.mod_eq_of_lt ha, Nat.mod_eq_of_lt hb, Nat.mod_eq_of_lt (Nat.or_lt_two_pow ha hb)]
theorem wb_mask {n k : Nat} (hn : n < 2 ^ 64) (hk : k < 64) : lN n &&& lN (2 ^ k - 1) = lN (n % 2 ^ k) := by
  rw [wb_and hn (by have := wb_lt2 hk; omega), Nat.and_two_pow_sub_one_eq_mod]
theorem wb_a1 {n : Nat} (hn : n < 2 ^ 64) : lN n &&& 1 = lN (n % 2) := wb_mask (k := 1) hn (by decide)
theorem wb_bit {n k : Nat} (hn : n < 2 ^ 64) (hk : k < 64) : ((lN n).toUInt64 >>> ((nI k).toInt64.toUInt64 &&& Int64.toUInt64 63)).toInt64 &&& 1 = lN (n / 2 ^ k % 2) := by
  rw [wb_shr hn hk, wb_a1 (Nat.lt_of_le_of_lt (Nat.div_le_self _ _) hn)]
/-! BLOCKS as one long. -/
def bcode : Blk → Nat
  | [] => 0
  | b :: bs => 8 * b.1 + b.2 + 64 * bcode bs
def VB (bs : Blk) : Prop := bs.length ≤ 8 ∧ (∀ b, b ∈ bs → b.1 < 4 ∧ 1 ≤ b.2 ∧ b.2 ≤ 6) ∧ wid bs ≤ 12
def bget (bs : Blk) (i : Nat) : Nat := match bs[i]? with
  | some b => 8 * b.1 + b.2
  | none => 0
def VC (bs : Blk) : Prop := ∀ b, b ∈ bs → b.1 < 4 ∧ 1 ≤ b.2 ∧ b.2 ≤ 6
theorem bcode_lt : ∀ (bs : Blk), VC bs → bcode bs < 64 ^ bs.length
  | [], _ => by simp [bcode]
  | b :: bs, h => by
    have h1 := bcode_lt bs (fun x hx => h x (List.mem_cons_of_mem _ hx))
    obtain ⟨h2, h3, h4⟩ := h b List.mem_cons_self
    simp only [bcode, List.length_cons, Nat.pow_succ]
    omega
theorem VB.lt {bs : Blk} (h : VB bs) : bcode bs < 281474976710656 := by
  have h1 := bcode_lt bs h.2.1
  have h2 : 64 ^ bs.length ≤ 64 ^ 8 := Nat.pow_le_pow_right (by decide) h.1
  have h3 : (64 : Nat) ^ 8 = 281474976710656 := by decide
  omega
theorem bcode_at : ∀ (bs : Blk), VC bs → ∀ i, bcode bs / 64 ^ i % 64 = bget bs i
  | [], h, i => by simp [bcode, bget]
  | b :: bs, h, 0 => by
    obtain ⟨h2, h3, h4⟩ := h b List.mem_cons_self
    simp only [bcode, bget, Nat.pow_zero, Nat.div_one, List.getElem?_cons_zero]
    omega
  | b :: bs, h, i + 1 => by
    obtain ⟨h2, h3, h4⟩ := h b List.mem_cons_self
    have h1 := bcode_at bs (fun x hx => h x (List.mem_cons_of_mem _ hx)) i
    have e : (8 * b.1 + b.2 + 64 * bcode bs) / 64 ^ (i + 1) = bcode bs / 64 ^ i := by
      rw [Nat.pow_succ, Nat.mul_comm (64 ^ i) 64, ← Nat.div_div_eq_div_mul]
      congr 1
      omega
    simp only [bcode]
    rw [e, h1]
    simp [bget]
theorem bget_lt (bs : Blk) (h : VC bs) (i : Nat) : bget bs i < 32 := by
  unfold bget
  cases hb : bs[i]? with
  | none => decide
  | some b =>
    obtain ⟨h2, h3, h4⟩ := h b (List.mem_of_getElem? hb)
    show 8 * b.1 + b.2 < 32
    omega
theorem bget_pos {bs : Blk} (h : VC bs) {i : Nat} (hi : i < bs.length) : bget bs i ≠ 0 := by
  unfold bget
  rw [List.getElem?_eq_getElem hi]
  have := h bs[i] (List.getElem_mem hi)
  show 8 * bs[i].1 + bs[i].2 ≠ 0
  omega
theorem bget_end {bs : Blk} {i : Nat} (hi : bs.length ≤ i) : bget bs i = 0 := by
  unfold bget
  rw [List.getElem?_eq_none hi]
theorem bcode_inj : ∀ (a b : Blk), VC a → VC b → bcode a = bcode b → a = b
  | [], [], _, _, _ => rfl
  | [], y :: b, _, hb, h => by
    have := hb y List.mem_cons_self
    simp only [bcode] at h
    omega
  | x :: a, [], ha, _, h => by
    have := ha x List.mem_cons_self
    simp only [bcode] at h
    omega
  | x :: a, y :: b, ha, hb, h => by
    have h1 := ha x List.mem_cons_self
    have h2 := hb y List.mem_cons_self
    simp only [bcode] at h
    have h3 : x.1 = y.1 := by omega
    have h4 : x.2 = y.2 := by omega
    have h5 := bcode_inj a b (fun z hz => ha z (List.mem_cons_of_mem _ hz)) (fun z hz => hb z (List.mem_cons_of_mem _ hz)) (by omega)
    rw [h5, Prod.ext h3 h4]
theorem nI_and (n k : Nat) (hk : k ≤ 32) {m : Int32} (hm : m.toBitVec.toNat = 2 ^ k - 1) : nI n &&& m = nI (n % 2 ^ k) := by
  rw [pk_and (nI n) k hm]
  have h1 : (nI n).toBitVec.toNat = n % 2 ^ 32 := by show (BitVec.ofNat 32 n).toNat = _; rw [BitVec.toNat_ofNat]
  rw [h1, Nat.mod_mod_of_dvd n (Nat.pow_dvd_pow 2 hk)]
theorem codeAt_ok (N : Nat) {bs : Blk} (h : VB bs) {i : Nat} (hi : i < 8) (σ : Wd) : f_X0_codeAt N (lN (bcode bs)) (nI i) σ = some (nI (bget bs i), σ) := by
  unfold f_X0_codeAt
  have hb := h.lt
  rw [show (6 : Int32) * nI i = nI (6 * i) from pk_mul 6 i, wb_shr (by omega) (by omega), lN_i, nI_and _ 6 (by decide) (by decide), show 2 ^ (6 * i) = 64 ^ i by rw [Nat.pow_mul], show (2 : Nat) ^ 6 = 64 by decide, bcode_at bs h.2.1]
theorem kindAt_ok (N : Nat) {bs : Blk} (h : VB bs) {i : Nat} (hi : i < 8) (σ : Wd) : f_X0_kindAt N (lN (bcode bs)) (nI i) σ = some (nI (bget bs i / 8), σ) := by
  unfold f_X0_kindAt
  have := bget_lt bs h.2.1 i
  rw [codeAt_ok N h hi, obind]
  dsimp only
  rw [pk_shrN (by omega) _ 3 (by decide)]
theorem widthAt_ok (N : Nat) {bs : Blk} (h : VB bs) {i : Nat} (hi : i < 8) (σ : Wd) : f_X0_widthAt N (lN (bcode bs)) (nI i) σ = some (nI (bget bs i % 8), σ) := by
  unfold f_X0_widthAt
  rw [codeAt_ok N h hi, obind]
  dsimp only
  rw [nI_and _ 3 (by decide) (by decide)]
theorem amount_ok (N : Nat) (hN : 512 ≤ N) {bs : Blk} (h : VB bs) (σ : Wd) : f_X0_amount N (lN (bcode bs)) σ = some (nI bs.length, σ) := by
  have key : ∀ (c fuel i : Nat), i + c = bs.length → c < fuel → f_X0_amount_L2 N (f_X0_amount_J22 N) fuel (lN (bcode bs)) (nI i) σ = some (nI bs.length, σ) := by
    intro c
    induction c with
    | zero =>
      intro fuel i h1 h2
      obtain ⟨fuel, rfl⟩ : ∃ f, fuel = f + 1 := ⟨fuel - 1, by omega⟩
      have hi : i = bs.length := by omega
      unfold f_X0_amount_L2
      by_cases h8 : 8 ≤ i
      · rw [if_pos (show (8 : Int32) ≤ nI i from (nLe (a := 8) (by omega) (by have := h.1; omega)).mpr h8), hi]
        rfl
      · rw [if_neg (show ¬ (8 : Int32) ≤ nI i from fun z => h8 ((nLe (a := 8) (by omega) (by omega)).mp z)), codeAt_ok N h (by omega), obind]
        dsimp only
        rw [bget_end (by omega), if_pos (show nI 0 = 0 from rfl), hi]
        rfl
    | succ c ih =>
      intro fuel i h1 h2
      obtain ⟨fuel, rfl⟩ : ∃ f, fuel = f + 1 := ⟨fuel - 1, by omega⟩
      have h8 : ¬ 8 ≤ i := by have := h.1; omega
      unfold f_X0_amount_L2
      rw [if_neg (show ¬ (8 : Int32) ≤ nI i from fun z => h8 ((nLe (a := 8) (by omega) (by omega)).mp z)), codeAt_ok N h (by omega), obind]
      dsimp only
      have hb := bget_lt bs h.2.1 i
      rw [if_neg (show ¬ nI (bget bs i) = 0 from neN (b := 0) (by omega) (by omega) (bget_pos h.2.1 (by omega))), nI_1]
      exact ih fuel (i + 1) (by omega) (by omega)
  unfold f_X0_amount
  have := h.1
  exact key bs.length N 0 (by omega) (by omega)
theorem bget_w {bs : Blk} (h : VC bs) (i : Nat) : bget bs i % 8 = match bs[i]? with | some b => b.2 | none => 0 := by
  unfold bget
  cases hb : bs[i]? with
  | none => rfl
  | some b =>
    have := h b (List.mem_of_getElem? hb)
    show (8 * b.1 + b.2) % 8 = b.2
    omega
theorem bget_k {bs : Blk} (h : VC bs) (i : Nat) : bget bs i / 8 = match bs[i]? with | some b => b.1 | none => 0 := by
  unfold bget
  cases hb : bs[i]? with
  | none => rfl
  | some b =>
    have := h b (List.mem_of_getElem? hb)
    show (8 * b.1 + b.2) / 8 = b.1
    omega
theorem wid_take (bs : Blk) (i : Nat) : wid (bs.take (i + 1)) = wid (bs.take i) + match bs[i]? with | some b => b.2 | none => 0 := by
  unfold wid
  rw [List.take_add_one, List.map_append, List.sum_append]
  cases bs[i]? with
  | none => rfl
  | some b => simp
theorem wid_le (bs : Blk) (i : Nat) : wid (bs.take i) ≤ wid bs := by
  conv => rhs; rw [← List.take_append_drop i bs]
  unfold wid
  rw [List.map_append, List.sum_append]
  omega
theorem width_ok (N : Nat) (hN : 512 ≤ N) {bs : Blk} (h : VB bs) (σ : Wd) : f_X0_width N (lN (bcode bs)) σ = some (nI (wid bs), σ) := by
  have key : ∀ (c fuel i : Nat), i + c = 8 → c < fuel → f_X0_width_L4 N (f_X0_width_J24 N) fuel (lN (bcode bs)) (nI (wid (bs.take i))) (nI i) σ = some (nI (wid bs), σ) := by
    intro c
    induction c with
    | zero =>
      intro fuel i h1 h2
      obtain ⟨fuel, rfl⟩ : ∃ f, fuel = f + 1 := ⟨fuel - 1, by omega⟩
      unfold f_X0_width_L4
      rw [if_pos (show (8 : Int32) ≤ nI i from (nLe (a := 8) (by omega) (by omega)).mpr (by omega)), List.take_of_length_le (by have := h.1; omega)]
      rfl
    | succ c ih =>
      intro fuel i h1 h2
      obtain ⟨fuel, rfl⟩ : ∃ f, fuel = f + 1 := ⟨fuel - 1, by omega⟩
      have h8 : ¬ 8 ≤ i := by omega
      unfold f_X0_width_L4
      rw [if_neg (show ¬ (8 : Int32) ≤ nI i from fun z => h8 ((nLe (a := 8) (by omega) (by omega)).mp z)), widthAt_ok N h (by omega), obind]
      dsimp only
      rw [nI_add, nI_1, bget_w h.2.1, ← wid_take]
      exact ih fuel (i + 1) (by omega) (by omega)
  unfold f_X0_width
  exact key 8 N 0 (by omega) (by omega)
