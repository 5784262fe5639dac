section
/-! How many bits are set. -/
theorem an_sp (k : Nat) {b m : Nat} (X M : Nat) (hb : b < 2 ^ k) (hm : m < 2 ^ k) : (b + 2 ^ k * X) &&& (m + 2 ^ k * M) = (b &&& m) + 2 ^ k * (X &&& M) := by
  have hp : 0 < 2 ^ k := Nat.two_pow_pos k
  rw [← Nat.mod_add_div ((b + 2 ^ k * X) &&& (m + 2 ^ k * M)) (2 ^ k), Nat.and_mod_two_pow, Nat.and_div_two_pow, Nat.add_mul_mod_self_left, Nat.add_mul_mod_self_left, Nat.mod_eq_of_lt hb, Nat.mod_eq_of_lt hm, Nat.add_mul_div_left _ _ hp, Nat.add_mul_div_left _ _ hp, Nat.div_eq_of_lt hb, Nat.div_eq_of_lt hm, Nat.zero_add, Nat.zero_add]
theorem an8 {b m : Nat} (X M : Nat) (hb : b < 256) (hm : m < 256) : (b + 256 * X) &&& (m + 256 * M) = (b &&& m) + 256 * (X &&& M) := an_sp 8 X M hb hm
def s1 (b : Nat) : Nat := b - (b / 2 &&& 85)
def s2 (c : Nat) : Nat := (c &&& 51) + (c / 4 &&& 51)
def s3 (c : Nat) : Nat := (c + c / 16) &&& 15
def q1 (M x : Nat) : Nat := x - (x / 2 &&& M)
def q2 (M x : Nat) : Nat := (x &&& M) + (x / 4 &&& M)
def q3 (M x : Nat) : Nat := (x + x / 16) &&& M
theorem s1_b : ∀ b, b < 256 → ∀ t, t < 2 → ((b / 2 + 128 * t) &&& 85) = (b / 2 &&& 85) := by decide +kernel
theorem s2_b : ∀ b, b < 256 → ∀ t, t < 4 → ((b / 4 + 64 * t) &&& 51) = (b / 4 &&& 51) := by decide +kernel
theorem s_b : ∀ b, b < 256 → s1 b < 256 ∧ s2 (s1 b) < 69 ∧ s2 (s1 b) % 16 ≤ 4 ∧ s3 (s2 (s1 b)) ≤ 8 ∧ s3 (s2 (s1 b)) = ctb b.testBit 8 := by decide +kernel
theorem s3_b : ∀ b, b < 69 → ∀ t, t < 5 → ((b + b / 16 + 16 * t) &&& 15) = s3 b := by decide +kernel
theorem q1_s {b : Nat} (hb : b < 256) (X M : Nat) : q1 (85 + 256 * M) (b + 256 * X) = s1 b + 256 * q1 M X := by
  unfold q1 s1
  have e : (b + 256 * X) / 2 = (b / 2 + 128 * (X % 2)) + 256 * (X / 2) := by omega
  rw [e, an8 _ _ (by omega) (by omega), s1_b b hb _ (Nat.mod_lt _ (by decide))]
  have h1 : (b / 2 &&& 85) ≤ b / 2 := Nat.and_le_left
  have h2 : (X / 2 &&& M) ≤ X / 2 := Nat.and_le_left
  omega
theorem q2_s {b : Nat} (hb : b < 256) (X M : Nat) : q2 (51 + 256 * M) (b + 256 * X) = s2 b + 256 * q2 M X := by
  unfold q2 s2
  have e : (b + 256 * X) / 4 = (b / 4 + 64 * (X % 4)) + 256 * (X / 4) := by omega
  rw [e, an8 _ _ hb (by omega), an8 _ _ (by omega) (by omega), s2_b b hb _ (Nat.mod_lt _ (by decide))]
  omega
theorem q3_s {b : Nat} (hb : b < 69) {X : Nat} (hX : X % 16 ≤ 4) (M : Nat) : q3 (15 + 256 * M) (b + 256 * X) = s3 b + 256 * q3 M X := by
  unfold q3
  have e : b + 256 * X + (b + 256 * X) / 16 = (b + b / 16 + 16 * (X % 16)) + 256 * (X + X / 16) := by omega
  rw [e, an8 _ _ (by omega) (by omega), s3_b b hb _ (by omega)]
theorem bt_split {m : Nat} (hm : m < 4294967296) : ∃ a b c d, a < 256 ∧ b < 256 ∧ c < 256 ∧ d < 256 ∧ m = a + 256 * (b + 256 * (c + 256 * (d + 256 * 0))) := ⟨m % 256, m / 256 % 256, m / 65536 % 256, m / 16777216, by omega, by omega, by omega, by omega, by omega⟩
theorem ctb_add (Q : Nat → Bool) (a : Nat) : ∀ b, ctb Q (a + b) = ctb Q a + ctb (fun i => Q (a + i)) b
  | 0 => rfl
  | b + 1 => by
    show ctb Q (a + b) + _ = ctb Q a + (ctb (fun i => Q (a + i)) b + _)
    rw [ctb_add Q a b, Nat.add_assoc]
    rfl
theorem ctb_bt {a : Nat} (X : Nat) (ha : a < 256) (n : Nat) : ctb (a + 256 * X).testBit (8 + n) = ctb a.testBit 8 + ctb X.testBit n := by
  rw [ctb_add, ctb_cg 8 (R := a.testBit) (fun j hj => ?_), ctb_cg n (R := X.testBit) (fun j _ => ?_)]
  · rw [Nat.add_comm a, show 256 * X = 2 ^ 8 * X from rfl, Nat.testBit_two_pow_mul_add _ (show a < 2 ^ 8 from ha), if_neg (by omega), Nat.add_sub_cancel_left]
  · rw [Nat.add_comm a, show 256 * X = 2 ^ 8 * X from rfl, Nat.testBit_two_pow_mul_add _ (show a < 2 ^ 8 from ha), if_pos hj]
theorem add_n {A B C D : Nat} (hA : A ≤ 8) (hB : B ≤ 8) (hC : C ≤ 8) (hD : D ≤ 8) : ∃ v u, (A + 256 * (B + 256 * (C + 256 * (D + 256 * 0)))) + (A + 256 * (B + 256 * (C + 256 * (D + 256 * 0)))) / 2 ^ 8 = v ∧ v + v / 2 ^ 16 = u ∧ v < 4294967296 ∧ u < 2147483648 ∧ u / 2 ^ 32 = 0 ∧ u % 128 = A + (B + (C + (D + 0))) := by
  have e1 : (A + 256 * (B + 256 * (C + 256 * (D + 256 * 0)))) / 2 ^ 8 = B + 256 * (C + 256 * D) := by omega
  have e2 : ((A + B) + 256 * (B + C) + 65536 * (C + D + 256 * D)) / 2 ^ 16 = C + D + 256 * D := by omega
  refine ⟨(A + B) + 256 * (B + C) + 65536 * (C + D + 256 * D), _, by rw [e1]; omega, by rw [e2], by omega, by omega, by omega, ?_⟩
  omega
theorem pop_n {m : Nat} (hm : m < 4294967296) : ∃ y w z, q1 6148914691236517205 m = y ∧ q2 3689348814741910323 y = w ∧ q3 1085102592571150095 w = z ∧ y < 4294967296 ∧ w < 4294967296 ∧ z < 4294967296 ∧ ∃ v u, z + z / 2 ^ 8 = v ∧ v + v / 2 ^ 16 = u ∧ v < 4294967296 ∧ u < 2147483648 ∧ u / 2 ^ 32 = 0 ∧ u % 128 = ctb m.testBit 32 := by
  obtain ⟨a, b, c, d, ha, hb, hc, hd, rfl⟩ := bt_split hm
  obtain ⟨a1, a2, a3, a4, a5⟩ := s_b a ha
  obtain ⟨b1, b2, b3, b4, b5⟩ := s_b b hb
  obtain ⟨c1, c2, c3, c4, c5⟩ := s_b c hc
  obtain ⟨d1, d2, d3, d4, d5⟩ := s_b d hd
  have e1 : q1 6148914691236517205 (a + 256 * (b + 256 * (c + 256 * (d + 256 * 0)))) = s1 a + 256 * (s1 b + 256 * (s1 c + 256 * (s1 d + 256 * 0))) := by
    rw [show 6148914691236517205 = 85 + 256 * (85 + 256 * (85 + 256 * (85 + 256 * 1431655765))) by decide, q1_s ha, q1_s hb, q1_s hc, q1_s hd, show q1 1431655765 0 = 0 by decide]
  have e2 : q2 3689348814741910323 (s1 a + 256 * (s1 b + 256 * (s1 c + 256 * (s1 d + 256 * 0)))) = s2 (s1 a) + 256 * (s2 (s1 b) + 256 * (s2 (s1 c) + 256 * (s2 (s1 d) + 256 * 0))) := by
    rw [show 3689348814741910323 = 51 + 256 * (51 + 256 * (51 + 256 * (51 + 256 * 858993459))) by decide, q2_s a1, q2_s b1, q2_s c1, q2_s d1, show q2 858993459 0 = 0 by decide]
  have e3 : q3 1085102592571150095 (s2 (s1 a) + 256 * (s2 (s1 b) + 256 * (s2 (s1 c) + 256 * (s2 (s1 d) + 256 * 0)))) = s3 (s2 (s1 a)) + 256 * (s3 (s2 (s1 b)) + 256 * (s3 (s2 (s1 c)) + 256 * (s3 (s2 (s1 d)) + 256 * 0))) := by
    rw [show 1085102592571150095 = 15 + 256 * (15 + 256 * (15 + 256 * (15 + 256 * 252645135))) by decide, q3_s a2 (by omega), q3_s b2 (by omega), q3_s c2 (by omega), q3_s d2 (by decide), show q3 252645135 0 = 0 by decide]
  refine ⟨_, _, _, e1, e2, e3, by omega, by omega, by omega, ?_⟩
  rw [show (32 : Nat) = 8 + (8 + (8 + (8 + 0))) from rfl, ctb_bt _ ha, ctb_bt _ hb, ctb_bt _ hc, ctb_bt _ hd, ← a5, ← b5, ← c5, ← d5, show ctb (Nat.testBit 0) 0 = 0 from rfl]
  exact add_n a4 b4 c4 d4
def us (x : Int64) (k : Int32) : Int64 := (Int64.toUInt64 x >>> (Int64.toUInt64 (Int32.toInt64 k) &&& Int64.toUInt64 63)).toInt64
def blY (a : Int64) : Int64 := a - (us a 1 &&& 6148914691236517205)
def blW (y : Int64) : Int64 := (y &&& 3689348814741910323) + (us y 2 &&& 3689348814741910323)
def blZ (w : Int64) : Int64 := (w + us w 4) &&& 1085102592571150095
def blV (z : Int64) : Int64 := z + us z 8
def blU (v : Int64) : Int64 := v + us v 16
def blT (u : Int64) : Int32 := Int64.toInt32 (u + us u 32) &&& 127
theorem bl_eq (N : Nat) (a : Int64) (σ : Wd) : f_J13_bitCount_95d88 N a σ = some (blT (blU (blV (blZ (blW (blY a))))), σ) := rfl
theorem us_n {n k : Nat} (hn : n < 2 ^ 64) (hk : k < 64) : us (lN n) (nI k) = lN (n / 2 ^ k) := wb_shr hn hk
theorem bl_ok {m : Nat} (hm : m < 4294967296) : blT (blU (blV (blZ (blW (blY (lN m)))))) = nI (ctb m.testBit 32) := by
  obtain ⟨y, w, z, h1, h2, h3, hy, hw, hz, v, u, h4, h5, hv, hu, hu0, hp⟩ := pop_n hm
  have e1 : blY (lN m) = lN y := by
    unfold blY
    rw [show us (lN m) 1 = lN (m / 2 ^ 1) from us_n (k := 1) (by omega) (by decide), show (6148914691236517205 : Int64) = lN 6148914691236517205 from rfl, wb_and (by omega) (by decide), lN_sub (Nat.le_trans Nat.and_le_left (Nat.div_le_self _ _)), ← h1]; rfl
  have e2 : blW (lN y) = lN w := by
    unfold blW
    rw [show us (lN y) 2 = lN (y / 2 ^ 2) from us_n (k := 2) (by omega) (by decide), show (3689348814741910323 : Int64) = lN 3689348814741910323 from rfl, wb_and (by omega) (by decide), wb_and (by omega) (by decide), lN_add, ← h2]; rfl
  have e3 : blZ (lN w) = lN z := by
    unfold blZ
    rw [show us (lN w) 4 = lN (w / 2 ^ 4) from us_n (k := 4) (by omega) (by decide), show (1085102592571150095 : Int64) = lN 1085102592571150095 from rfl, lN_add, wb_and (by omega) (by decide), ← h3]; rfl
  have e4 : blV (lN z) = lN v := by
    unfold blV
    rw [show us (lN z) 8 = lN (z / 2 ^ 8) from us_n (k := 8) (by omega) (by decide), lN_add, ← h4]
  have e5 : blU (lN v) = lN u := by
    unfold blU
    rw [show us (lN v) 16 = lN (v / 2 ^ 16) from us_n (k := 16) (by omega) (by decide), lN_add, ← h5]
  have e6 : blT (lN u) = nI (u % 128) := by
    unfold blT
    rw [show us (lN u) 32 = lN (u / 2 ^ 32) from us_n (k := 32) (by omega) (by decide), hu0, lN_add, Nat.add_zero, show Int64.toInt32 (lN u) = nI u from Int64.toInt32_ofNat', show (127 : Int32) = nI 127 from rfl, nI_andN (by omega) (by decide), show (127 : Nat) = 2 ^ 7 - 1 from rfl, Nat.and_two_pow_sub_one_eq_mod]
  rw [e1, e2, e3, e4, e5, e6, hp]
/-- eight codes of a kind against ten figures of it -/
theorem c8 {Q F : Nat → Bool} (h0 : Q 0 = false) (h7 : Q 7 = false) (f0 : F 0 = false) (f7 : F 7 = false) (f8 : F 8 = false) (f9 : F 9 = false) (h : ∀ r, 1 ≤ r → r ≤ 6 → Q r = F r) : ctb Q 8 = ctb F 10 := by
  simp only [ctb, h0, h7, f0, f7, f8, f9, h 1 (by decide) (by decide), h 2 (by decide) (by decide), h 3 (by decide) (by decide), h 4 (by decide) (by decide), h 5 (by decide) (by decide), h 6 (by decide) (by decide)]
  rfl
theorem c8q {Q F : Nat → Bool} {S : Nat × Nat → Prop} (hS : ∀ b, S b → b.1 < 4 ∧ 1 ≤ b.2 ∧ b.2 ≤ 6) (hQ : ∀ c, Q c = true ↔ ∃ b, S b ∧ 8 * b.1 + b.2 = c) (hF : ∀ c, F c = true ↔ ∃ b, S b ∧ 10 * b.1 + b.2 = c) (q : Nat) : ctb (fun i => Q (8 * q + i)) 8 = ctb (fun i => F (10 * q + i)) 10 := by
  have hq0 : ∀ i, (i = 0 ∨ i = 7) → Q (8 * q + i) = false := fun i hi => by
    apply Bool.eq_false_iff.mpr
    intro h
    obtain ⟨b, hb, e⟩ := (hQ _).mp h
    obtain ⟨b1, b2, b3⟩ := hS b hb
    omega
  have hf0 : ∀ i, (i = 0 ∨ i = 7 ∨ i = 8 ∨ i = 9) → F (10 * q + i) = false := fun i hi => by
    apply Bool.eq_false_iff.mpr
    intro h
    obtain ⟨b, hb, e⟩ := (hF _).mp h
    obtain ⟨b1, b2, b3⟩ := hS b hb
    omega
  refine c8 (hq0 0 (by omega)) (hq0 7 (by omega)) (hf0 0 (by omega)) (hf0 7 (by omega)) (hf0 8 (by omega)) (hf0 9 (by omega)) (fun r h1 h2 => ?_)
  apply Bool.eq_iff_iff.mpr
  show Q (8 * q + r) = true ↔ F (10 * q + r) = true
  rw [hQ, hF]
  constructor
  · rintro ⟨b, hb, e⟩
    obtain ⟨b1, b2, b3⟩ := hS b hb
    exact ⟨b, hb, by omega⟩
  · rintro ⟨b, hb, e⟩
    obtain ⟨b1, b2, b3⟩ := hS b hb
    exact ⟨b, hb, by omega⟩
theorem ctb_uk {Q F : Nat → Bool} {S : Nat × Nat → Prop} (hS : ∀ b, S b → b.1 < 4 ∧ 1 ≤ b.2 ∧ b.2 ≤ 6) (hQ : ∀ c, Q c = true ↔ ∃ b, S b ∧ 8 * b.1 + b.2 = c) (hF : ∀ c, F c = true ↔ ∃ b, S b ∧ 10 * b.1 + b.2 = c) : ctb Q 32 = ctb F 40 := by
  have h0 := c8q hS hQ hF 0
  have h1 := c8q hS hQ hF 1
  have h2 := c8q hS hQ hF 2
  have h3 := c8q hS hQ hF 3
  rw [show (32 : Nat) = 8 * 0 + 8 + 8 + 8 + 8 from rfl, ctb_add, ctb_add Q (8 * 0 + 8 + 8) 8, ctb_add Q (8 * 0 + 8) 8, ctb_add Q (8 * 0) 8, show (40 : Nat) = 10 * 0 + 10 + 10 + 10 + 10 from rfl, ctb_add F (10 * 0 + 10 + 10 + 10), ctb_add F (10 * 0 + 10 + 10) 10, ctb_add F (10 * 0 + 10) 10, ctb_add F (10 * 0) 10]
  show (((0 + ctb (fun i => Q (8 * 0 + i)) 8) + ctb (fun i => Q (8 * 1 + i)) 8) + ctb (fun i => Q (8 * 2 + i)) 8) + ctb (fun i => Q (8 * 3 + i)) 8 = (((0 + ctb (fun i => F (10 * 0 + i)) 10) + ctb (fun i => F (10 * 1 + i)) 10) + ctb (fun i => F (10 * 2 + i)) 10) + ctb (fun i => F (10 * 3 + i)) 10
  rw [h0, h1, h2, h3]
end
