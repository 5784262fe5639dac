section
/-! Step: longest. -/
def bxy (x y : Nat) (i : Nat) : Nat := x / 2 ^ i % 2 + y / 2 ^ i % 2
def gB (x y : Nat) (i : Nat) : Bool := decide (bxy x y i = 2)
def qB (x y : Nat) (i : Nat) : Bool := decide (bxy x y i = 1)
theorem gq (x y : Nat) (j : Nat) : ¬ (gB x y j = true ∧ qB x y j = true) := fun ⟨a, b⟩ => by
  have h1 := of_decide_eq_true a
  have h2 := of_decide_eq_true b
  omega
def enc (m : Nat) : Int32 := nI m - 1
theorem enc_i {m : Nat} (h : m < 1000) : (enc m).toInt = (m : Int) - 1 := by
  unfold enc
  have := pk_sub_toInt (a := m) (b := 1) (by omega) (by decide)
  exact this
theorem enc_s (m : Nat) : enc (m + 1) = nI m := nI_pred m
theorem enc_0 : enc 0 = -1 := by decide
theorem enc_le {a b : Nat} (ha : a < 1000) (hb : b < 1000) : enc a ≤ enc b ↔ a ≤ b := by rw [fa_le, enc_i ha, enc_i hb]; omega
theorem enc_lt {a b : Nat} (ha : a < 1000) (hb : b < 1000) : enc a < enc b ↔ a < b := by rw [fa_lt, enc_i ha, enc_i hb]; omega
theorem enc_eq {a b : Nat} (ha : a < 1000) (hb : b < 1000) : enc a = enc b ↔ a = b := by rw [fa_eq, enc_i ha, enc_i hb]; omega
theorem enc_n {a : Nat} (ha : a < 1000) : enc a < 0 ↔ a = 0 := by rw [fa_lt, enc_i ha, show (0 : Int32).toInt = 0 by decide]; omega
theorem enc_p {a : Nat} (ha : a < 1000) : (0 : Int32) ≤ enc a ↔ 0 < a := by rw [fa_le, enc_i ha, show (0 : Int32).toInt = 0 by decide]; omega
theorem CL.bd {G Q : Nat → Bool} {c : Bool} {i a bg m f : Nat} (h : CL G Q c i a bg m f) : a ≤ i + 1 ∧ m ≤ i + 1 ∧ f ≤ i := by
  obtain ⟨⟨h1, h2⟩, h3⟩ := h
  refine ⟨?_, ?_, ?_⟩
  · rcases h3 with ⟨q, -⟩ | ⟨B, q1, -, -, q4, -⟩
    · omega
    · omega
  · rcases h2 with ⟨q, -⟩ | ⟨-, B, q1, q2, -, -⟩
    · omega
    · have := rl_le Q i B
      rw [← q2]; unfold vB
      split <;> omega
  · rcases h2 with ⟨-, q⟩ | ⟨-, B, q1, q2, q3, -⟩
    · omega
    · omega
theorem c_longest (N : Nat) (hN : 2048 < N) {x y z w : Nat} (hw : w ≤ 12) (hx : x < 2147483648) (hy : y < 2147483648) (hz : z ≤ 1) (what : Int32) (KO : Int32 → Int32 → Int32 → Wd → Option (Int32 × Wd)) (σ : Wd) : ∃ m f, CH (vB (gB x y) (qB x y) (decide (z = 1)) w) (w + 1) m f ∧ m ≤ w + 1 ∧ f ≤ w ∧ f_X9_longest_L55 N KO N (nI x) (nI y) (nI w) what (nI z - 1) 0 (nI z - 1) 0 0 σ = KO what (enc m) (nI f) σ := by
  have h0 : (if decide (z = 1) = true then 1 else 0) = z := by
    have : z = 0 ∨ z = 1 := by omega
    rcases this with rfl | rfl <;> rfl
  obtain ⟨⟨a, bg, m, f⟩, hcl, e⟩ := lp_up (S := Nat × Nat × Nat × Nat) (g := fun fu i s => f_X9_longest_L55 N KO fu (nI x) (nI y) (nI w) what (enc s.1) (nI s.2.1) (enc s.2.2.1) (nI s.2.2.2) (nI i) σ) (E := fun s => KO what (enc s.2.2.1) (nI s.2.2.2) σ) (P := fun i s => CL (gB x y) (qB x y) (decide (z = 1)) i s.1 s.2.1 s.2.2.1 s.2.2.2) (m := w) (fun fu i s hi hs => by
      obtain ⟨a, bg, m, f⟩ := s
      dsimp only at hs ⊢
      obtain ⟨b1, b2, b3⟩ := hs.bd
      have hst := hs.step (gq x y)
      have key : ∀ a' bg', a' ≤ i + 2 → f_X9_longest_J112 N (f_X9_longest_L55 N KO fu) KO (nI x) (nI y) (nI w) what (enc a') (nI bg') (enc m) (nI f) (nI i) σ = f_X9_longest_L55 N KO fu (nI x) (nI y) (nI w) what (enc a') (nI bg') (enc (if m < a' then a' else m)) (nI (if m < a' then bg' else f)) (nI (i + 1)) σ := fun a' bg' ha' => by
        unfold f_X9_longest_J112
        by_cases hc : m < a'
        · rw [if_neg (fun q => by have := (enc_le (by omega) (by omega)).mp q; omega), if_pos hc, if_pos hc, nI_1]
        · rw [if_pos ((enc_le (by omega) (by omega)).mpr (by omega)), if_neg hc, if_neg hc, nI_1]
      have hb : bxy x y i ≤ 2 := by unfold bxy; omega
      rw [f_X9_longest_L55, if_neg (fun q => by have := (nLe (by omega) (by omega)).mp q; omega), bit_1 hx (by omega), bit_1 hy (by omega), nI_add]
      rw [show x / 2 ^ i % 2 + y / 2 ^ i % 2 = bxy x y i from rfl]
      by_cases c2 : bxy x y i = 2
      · have hg : gB x y i = true := decide_eq_true c2
        rw [if_pos hg, if_pos hg] at hst
        refine ⟨(1, i, (if m < 1 then 1 else m), (if m < 1 then i else f)), hst, ?_⟩
        rw [if_pos (show nI (bxy x y i) = 2 by rw [c2]; rfl)]
        exact key 1 i (by omega)
      · have hg : ¬ gB x y i = true := fun q => c2 (of_decide_eq_true q)
        rw [if_neg (show ¬ nI (bxy x y i) = 2 from neN (b := 2) (by omega) (by omega) c2)]
        rw [if_neg hg, if_neg hg] at hst
        by_cases c0 : bxy x y i = 0
        · have hq : ¬ qB x y i = true := fun q => by have := of_decide_eq_true q; omega
          rw [if_neg hq] at hst
          refine ⟨(0, bg, (if m < 0 then 0 else m), (if m < 0 then bg else f)), hst, ?_⟩
          rw [if_pos (show nI (bxy x y i) = 0 by rw [c0]; rfl)]
          exact key 0 bg (by omega)
        · have hq : qB x y i = true := decide_eq_true (by omega)
          rw [if_pos hq] at hst
          refine ⟨((if a = 0 then 0 else a + 1), bg, (if m < (if a = 0 then 0 else a + 1) then (if a = 0 then 0 else a + 1) else m), (if m < (if a = 0 then 0 else a + 1) then bg else f)), hst, ?_⟩
          rw [if_neg (show ¬ nI (bxy x y i) = 0 from neN (b := 0) (by omega) (by omega) c0)]
          by_cases ha : a = 0
          · rw [if_pos ((enc_n (by omega)).mpr ha), if_pos ha, ha]
            exact key 0 bg (by omega)
          · rw [if_neg (fun q => ha ((enc_n (by omega)).mp q)), if_neg ha]
            have he : enc a + 1 = enc (a + 1) := by
              obtain ⟨b, rfl⟩ : ∃ b, a = b + 1 := ⟨a - 1, by omega⟩
              rw [enc_s, enc_s, nI_1]
            rw [he]
            exact key (a + 1) bg (by omega)) (fun fu s hs => by
      try dsimp only
      rw [f_X9_longest_L55, if_pos ((nLe (by omega) (by omega)).mpr (Nat.le_refl _))]) w N 0 (z, 0, z, 0) (by omega) (by omega) (by
        have := CL.zero (G := gB x y) (Q := qB x y) (c := decide (z = 1))
        rw [h0] at this
        exact this)
  dsimp only at hcl e
  obtain ⟨-, b2, b3⟩ := hcl.bd
  exact ⟨m, f, hcl.1, b2, b3, e⟩
theorem nI_andN {a b : Nat} (ha : a < 2 ^ 32) (hb : b < 2 ^ 32) : nI a &&& nI b = nI (a &&& b) := by
  apply Int32.toBitVec_inj.mp
  rw [Int32.toBitVec_and, nI_tb, nI_tb, nI_tb]
  apply BitVec.eq_of_toNat_eq
  rw [BitVec.toNat_and, BitVec.toNat_ofNat, BitVec.toNat_ofNat, BitVec.toNat_ofNat, Nat.mod_eq_of_lt ha, Nat.mod_eq_of_lt hb, Nat.mod_eq_of_lt (Nat.and_lt_two_pow a hb)]
theorem nI_xorN {a b : Nat} (ha : a < 2 ^ 32) (hb : b < 2 ^ 32) : nI a ^^^ nI b = nI (a ^^^ b) := by
  apply Int32.toBitVec_inj.mp
  rw [Int32.toBitVec_xor, nI_tb, nI_tb, nI_tb]
  apply BitVec.eq_of_toNat_eq
  rw [BitVec.toNat_xor, BitVec.toNat_ofNat, BitVec.toNat_ofNat, BitVec.toNat_ofNat, Nat.mod_eq_of_lt ha, Nat.mod_eq_of_lt hb, Nat.mod_eq_of_lt (Nat.xor_lt_two_pow ha hb)]
theorem has_bit (N : Nat) {x i : Nat} (hx : x < 2147483648) (hi : i < 32) (σ : Wd) : f_X10_has N (nI x) (nI i) σ = some (if x.testBit i = true then 1 else 0, σ) := by
  unfold f_X10_has
  rw [bit_1 hx hi, Nat.testBit_eq_decide_div_mod_eq]
  have hm := Nat.mod_lt (x / 2 ^ i) (show 2 > 0 by omega)
  by_cases h : x / 2 ^ i % 2 = 1
  · rw [h, if_pos (show nI 1 = 1 from rfl), if_pos (by decide)]
  · rw [show x / 2 ^ i % 2 = 0 by omega, if_neg (show ¬ nI 0 = 1 by decide), if_neg (by decide)]
theorem tb_g (x y i : Nat) : (x &&& y).testBit i = gB x y i := by
  rw [Nat.testBit_and, Nat.testBit_eq_decide_div_mod_eq, Nat.testBit_eq_decide_div_mod_eq]
  unfold gB bxy
  have h1 := Nat.mod_lt (x / 2 ^ i) (show 2 > 0 by omega)
  have h2 := Nat.mod_lt (y / 2 ^ i) (show 2 > 0 by omega)
  generalize x / 2 ^ i % 2 = a at *
  generalize y / 2 ^ i % 2 = b at *
  have ha : a = 0 ∨ a = 1 := by omega
  have hb : b = 0 ∨ b = 1 := by omega
  rcases ha with rfl | rfl <;> rcases hb with rfl | rfl <;> rfl
theorem tb_q (x y i : Nat) : (x ^^^ y).testBit i = qB x y i := by
  rw [Nat.testBit_xor, Nat.testBit_eq_decide_div_mod_eq, Nat.testBit_eq_decide_div_mod_eq]
  unfold qB bxy
  have h1 := Nat.mod_lt (x / 2 ^ i) (show 2 > 0 by omega)
  have h2 := Nat.mod_lt (y / 2 ^ i) (show 2 > 0 by omega)
  generalize x / 2 ^ i % 2 = a at *
  generalize y / 2 ^ i % 2 = b at *
  have ha : a = 0 ∨ a = 1 := by omega
  have hb : b = 0 ∨ b = 1 := by omega
  rcases ha with rfl | rfl <;> rcases hb with rfl | rfl <;> rfl
theorem m_while (N : Nat) {x y w : Nat} (hw : w ≤ 12) (hx : x < 4096) (hy : y < 4096) (KO : Int32 → Int32 → Int32 → Int32 → Int32 → Int32 → Int32 → Int32 → Wd → Option (Int32 × Wd)) (x3 x5 x6 x7 : Int32) (σ : Wd) : ∀ (c fu B : Nat), B + c = w → c < fu → f_X10_longest_L122 N KO fu (nI x) (nI y) x3 (nI w) x5 x6 x7 (nI B) σ = KO (nI x) (nI y) x3 (nI w) x5 x6 x7 (nI (B + rlF (qB x y) c B)) σ
  | 0, fu + 1, B, h1, _ => by
    rw [f_X10_longest_L122, if_pos ((nLe (by omega) (by omega)).mpr (by omega))]
    rfl
  | c + 1, fu + 1, B, h1, h2 => by
    have h12 : (2 : Nat) ^ 12 = 4096 := by decide
    have hxy : x ^^^ y < 4096 := by
      have := Nat.xor_lt_two_pow (n := 12) (x := x) (y := y) (by omega) (by omega)
      omega
    rw [f_X10_longest_L122, if_neg (fun q => by have := (nLe (by omega) (by omega)).mp q; omega), nI_xorN (by omega) (by omega), has_bit N (by omega) (by omega), obind, tb_q]
    unfold rlF
    by_cases hq : qB x y B = true
    · rw [if_pos hq]
      dsimp only
      rw [if_pos hq, if_neg (show ¬ (1 : Int32) = 0 by decide), nI_1, m_while N hw hx hy KO x3 x5 x6 x7 σ c fu (B + 1) (by omega) (by omega), show B + 1 + rlF (qB x y) c (B + 1) = B + (rlF (qB x y) c (B + 1) + 1) by omega]
    · rw [if_neg hq]
      dsimp only
      rw [if_neg hq, if_pos rfl]; rfl
theorem m_longest (N : Nat) (hN : 2048 < N) {x y z w : Nat} (hw : w ≤ 12) (hx : x < 4096) (hy : y < 4096) (hz : z ≤ 1) (what : Int32) (KO : Int32 → Wd → Option (Int32 × Wd)) (σ : Wd) (h39 : σ.1 41 39 = -1) (h40 : σ.1 41 40 = 0) : ∃ m f τ, CH (vB (gB x y) (qB x y) (decide (z = 1)) w) (w + 1) m f ∧ τ.1 41 39 = enc m ∧ τ.1 41 40 = nI f ∧ FrM [] [39, 40] σ τ ∧ f_X10_longest_L81 N KO N (nI x) (nI y) (nI z) (nI w) what (-1) σ = KO what τ := by
  have hand : nI x &&& nI y = nI (x &&& y) := nI_andN (by omega) (by omega)
  have hxy : x &&& y < 4096 := Nat.lt_of_le_of_lt Nat.and_le_left hx
  have hencB : ∀ B, enc B + 1 = nI B := fun B => by
    cases B with
    | zero => decide
    | succ b => rw [enc_s, nI_1]
  have hlen : ∀ B l, B + l ≤ w → (nI (B + l) - enc B) - 1 = nI l := fun B l h => by
    rw [fa_eq, nI_toInt (by omega)]
    have h1 := enc_i (m := B) (by omega)
    have h2 := nI_toInt (n := B + l) (by omega)
    cases B with
    | zero =>
      rw [Nat.zero_add, enc_0]
      have e1 : nI l - -1 = nI (l + 1) := by rw [Int32.sub_eq_add_neg]; exact nI_1 l
      rw [e1, show nI (l + 1) - 1 = nI l from nI_pred l, nI_toInt (by omega)]
    | succ b =>
      rw [enc_s, show nI (b + 1 + l) - nI b = nI (b + 1 + l - b) from pk_sub (by omega), show b + 1 + l - b = l + 1 by omega, nI_pred, nI_toInt (by omega)]
  obtain ⟨⟨τ, m, f⟩, ⟨F, q1, q2, hC⟩, e⟩ := lp_up (S := Wd × Nat × Nat) (g := fun fu B s => f_X10_longest_L81 N KO fu (nI x) (nI y) (nI z) (nI w) what (enc B) s.1) (E := fun s => KO what s.1) (P := fun B s => FrM [] [39, 40] σ s.1 ∧ s.1.1 41 39 = enc s.2.1 ∧ s.1.1 41 40 = nI s.2.2 ∧ CH (vB (gB x y) (qB x y) (decide (z = 1)) w) B s.2.1 s.2.2) (m := w + 1) (fun fu B s hB ⟨F, q1, q2, hC⟩ => by
      obtain ⟨τ, m, f⟩ := s
      dsimp only at F q1 q2 hC ⊢
      have hs := hC.snoc
      have hm : m ≤ w + 1 := by
        obtain ⟨-, h2⟩ := hC
        rcases h2 with ⟨q, -⟩ | ⟨-, B', p1, p2, -, -⟩
        · omega
        · have := rl_le (qB x y) w B'
          rw [← p2]; unfold vB
          split <;> omega
      have hf : f ≤ B - 1 := by
        obtain ⟨-, h2⟩ := hC
        rcases h2 with ⟨-, q⟩ | ⟨-, B', p1, -, p3, -⟩
        · omega
        · omega
      have hl := rl_le (qB x y) w B
      have hnext : ∀ is : Int32, (is = if isB (gB x y) (decide (z = 1)) B = true then 1 else 0) → ∃ s' : Wd × Nat × Nat, (FrM [] [39, 40] σ s'.1 ∧ s'.1.1 41 39 = enc s'.2.1 ∧ s'.1.1 41 40 = nI s'.2.2 ∧ CH (vB (gB x y) (qB x y) (decide (z = 1)) w) (B + 1) s'.2.1 s'.2.2) ∧ f_X10_longest_L122 N (f_X10_longest_J146 N (f_X10_longest_L81 N KO fu) KO) N (nI x) (nI y) (nI z) (nI w) what (enc B) is (enc B + 1) τ = f_X10_longest_L81 N KO fu (nI x) (nI y) (nI z) (nI w) what (enc (B + 1)) s'.1 := fun is his => by
        rw [hencB, m_while N hw hx hy _ _ _ _ _ τ (w - B) N B (by omega) (by omega)]
        unfold f_X10_longest_J146
        rw [hencB, show rlF (qB x y) (w - B) B = rl (qB x y) w B from rfl, hlen B _ (by omega), ← enc_s B]
        by_cases hb : isB (gB x y) (decide (z = 1)) B = true
        · have hv : vB (gB x y) (qB x y) (decide (z = 1)) w B = rl (qB x y) w B + 1 := by unfold vB; rw [if_pos hb]
          rw [hv] at hs
          rw [his, if_pos hb, if_neg (show ¬ (1 : Int32) = 0 by decide)]
          have hmeets : ∀ fr : Int32, fr = nI (B - 1) → f_X10_meets N (nI (rl (qB x y) w B)) fr τ = some (if m < rl (qB x y) w B + 1 then sF (sF τ 41 39 (enc (rl (qB x y) w B + 1))) 41 40 (nI (B - 1)) else τ) := fun fr hfr => by
            unfold f_X10_meets
            rw [q1, q2, ← enc_s, hfr]
            dsimp only
            by_cases hc : m < rl (qB x y) w B + 1
            · rw [if_pos ((enc_lt (by omega) (by omega)).mpr hc), if_pos hc]
            · rw [if_neg (fun q => hc ((enc_lt (by omega) (by omega)).mp q)), if_neg hc]
              by_cases he : rl (qB x y) w B + 1 = m
              · rw [if_pos (by rw [he]), if_pos ((nLe (by omega) (by omega)).mpr hf)]
              · rw [if_neg (fun q => he ((enc_eq (by omega) (by omega)).mp q))]
          have hres : ∃ s' : Wd × Nat × Nat, (FrM [] [39, 40] σ s'.1 ∧ s'.1.1 41 39 = enc s'.2.1 ∧ s'.1.1 41 40 = nI s'.2.2 ∧ CH (vB (gB x y) (qB x y) (decide (z = 1)) w) (B + 1) s'.2.1 s'.2.2) ∧ s'.1 = (if m < rl (qB x y) w B + 1 then sF (sF τ 41 39 (enc (rl (qB x y) w B + 1))) 41 40 (nI (B - 1)) else τ) := by
            by_cases hc : m < rl (qB x y) w B + 1
            · rw [if_pos hc, if_pos hc] at hs
              refine ⟨(sF (sF τ 41 39 (enc (rl (qB x y) w B + 1))) 41 40 (nI (B - 1)), rl (qB x y) w B + 1, B - 1), ⟨(F.D (by decide)).D (by decide), by dsimp only; rw [sF_nb (by decide), sF_eq], sF_eq, hs⟩, by rw [if_pos hc]⟩
            · rw [if_neg hc, if_neg hc] at hs
              exact ⟨(τ, m, f), ⟨F, q1, q2, hs⟩, by rw [if_neg hc]⟩
          obtain ⟨s', hs', hse⟩ := hres
          refine ⟨s', hs', ?_⟩
          rw [hse]
          by_cases h0 : B = 0
          · subst h0
            rw [if_neg (show ¬ (0 : Int32) ≤ enc 0 by decide), hmeets 0 rfl, obind]
          · obtain ⟨b, rfl⟩ : ∃ b, B = b + 1 := ⟨B - 1, by omega⟩
            rw [if_pos ((enc_p (by omega)).mpr (by omega)), hmeets (enc (b + 1)) (enc_s b), obind]
        · have hv : vB (gB x y) (qB x y) (decide (z = 1)) w B = 0 := by unfold vB; rw [if_neg hb]
          rw [hv, if_neg (Nat.not_lt_zero m), if_neg (Nat.not_lt_zero m)] at hs
          refine ⟨(τ, m, f), ⟨F, q1, q2, hs⟩, ?_⟩
          rw [his, if_neg hb, if_pos rfl]
      rw [f_X10_longest_L81]
      have hle : ¬ nI w ≤ enc B := fun q => by
        rw [fa_le, enc_i (by omega), nI_toInt (by omega)] at q; omega
      rw [if_neg hle]
      cases B with
      | zero =>
        rw [if_neg (show ¬ (0 : Int32) ≤ enc 0 by decide)]
        by_cases h1 : z = 1
        · rw [if_pos (show nI z = 1 by rw [h1]; rfl)]
          exact hnext 1 (by
            show (1 : Int32) = if decide (z = 1) = true then 1 else 0
            rw [h1]; rfl)
        · rw [if_neg (show ¬ nI z = 1 from neN (b := 1) (by omega) (by omega) h1)]
          exact hnext 0 (by
            show (0 : Int32) = if decide (z = 1) = true then 1 else 0
            rw [if_neg (fun q => h1 (of_decide_eq_true q))])
      | succ b =>
        rw [if_pos ((enc_p (by omega)).mpr (by omega)), hand, enc_s, has_bit N (by omega) (by omega), obind, tb_g]
        rw [← enc_s b]
        exact hnext _ rfl) (fun fu s hs => by
      try dsimp only
      have : nI w ≤ enc (w + 1) := by rw [enc_s]; exact (nLe (by omega) (by omega)).mpr (Nat.le_refl _)
      rw [f_X10_longest_L81, if_pos this]) (w + 1) N 0 (σ, 0, 0) (by omega) (by omega) ⟨FrM.rf _ _ _, by dsimp only; rw [h39, enc_0], h40, fun B hB => absurd hB (Nat.not_lt_zero B), Or.inl ⟨rfl, rfl⟩⟩
  exact ⟨m, f, τ, hC, q1, q2, F, e⟩
theorem st_longest (N : Nat) (hN : 2048 < N) {σ : Wd} (R : SRel σ) (a b c wi what : Int32) : SStep (f_X9_longest N a b c wi what) (f_X10_longest N a b c wi what) σ := by
  obtain ⟨T, P, K, d, ar, sh, hW, hC, hX, hM⟩ := id R
  rcases rng wi 1 12 (by omega) (by omega) with ⟨w, hw1, hw2, rfl⟩ | ⟨h1, h2⟩
  · have c1 : ¬ nI w < 1 := fun z => by have := (nLt (b := 1) (by omega) (by omega)).mp z; omega
    have c2 : ¬ (12 : Int32) < nI w := fun z => by have := (nLt (a := 12) (by omega) (by omega)).mp z; omega
    have hp : (2 : Nat) ^ w ≤ 2 ^ 12 := Nat.pow_le_pow_right (by decide) hw2
    have h12 : (2 : Nat) ^ 12 = 4096 := by decide
    have eX : f_X9_longest N a b c (nI w) what σ = ((f_X9_areNumbers N a b c (nI w) σ).bind fun p1 => if p1.1 = 0 then (some ((-1), p1.2)) else (if what < 0 then (some ((-1), p1.2)) else (if what ≤ 1 then (f_X9_longest_L55 N (f_X9_longest_J133 N) N a b (nI w) what (c - 1) 0 (c - 1) 0 0 p1.2) else (some ((-1), p1.2))))) := by
      unfold f_X9_longest
      rw [if_neg c1, if_neg c2]
    have eM : ∀ τ, f_X10_longest N a b c (nI w) what τ = ((f_X10_in N (Int32.toInt64 a) 0 (Int32.toInt64 (nI (2 ^ w - 1))) τ).bind fun p2 => if p2.1 = 0 then (some ((-1), p2.2)) else ((f_X10_in N (Int32.toInt64 b) 0 (Int32.toInt64 (nI (2 ^ w - 1))) p2.2).bind fun p3 => if p3.1 = 0 then (some ((-1), p3.2)) else ((f_X10_in N (Int32.toInt64 c) 0 1 p3.2).bind fun p4 => if p4.1 = 0 then (some ((-1), p4.2)) else ((f_X10_in N (Int32.toInt64 what) 0 1 p4.2).bind fun p5 => if p5.1 = 0 then (some ((-1), p5.2)) else (f_X10_longest_L81 N (f_X10_longest_J179 N) N a b c (nI w) what (-1) (sF (sF p5.2 41 39 (-1)) 41 40 0)))))) := fun τ => by
      unfold f_X10_longest
      rw [in_y N (lo := 1) (hi := 12) (by decide) (by decide) ⟨gLe c1, gLe c2⟩, obind]
      dsimp only
      rw [if_neg (show ¬ (1 : Int32) = 0 by decide), pw_m1 hw2]
    rcases num_c a b c hw2 with ⟨x, y, z, h1, h2, h3, rfl, rfl, rfl, h4⟩ | ⟨h1, h2⟩
    · rw [h4, obind] at eX
      dsimp only at eX
      rw [if_neg (show ¬ (1 : Int32) = 0 by decide)] at eX
      have eM2 : ∀ τ, f_X10_longest N (nI x) (nI y) (nI z) (nI w) what τ = ((f_X10_in N (Int32.toInt64 what) 0 1 τ).bind fun p5 => if p5.1 = 0 then (some ((-1), p5.2)) else (f_X10_longest_L81 N (f_X10_longest_J179 N) N (nI x) (nI y) (nI z) (nI w) what (-1) (sF (sF p5.2 41 39 (-1)) 41 40 0))) := fun τ => by
        rw [eM, in_y N (lo := 0) (hi := nI (2 ^ w - 1)) (by decide) rfl ⟨nI_pos' (by omega), (nLe (by omega) (by omega)).mpr (by omega)⟩, obind]
        dsimp only
        rw [if_neg (show ¬ (1 : Int32) = 0 by decide), in_y N (lo := 0) (hi := nI (2 ^ w - 1)) (by decide) rfl ⟨nI_pos' (by omega), (nLe (by omega) (by omega)).mpr (by omega)⟩, obind]
        dsimp only
        rw [if_neg (show ¬ (1 : Int32) = 0 by decide), in_y N (lo := 0) (hi := 1) (by decide) (by decide) ⟨nI_pos' (by omega), (nLe (b := 1) (by omega) (by omega)).mpr h3⟩, obind]
        dsimp only
        rw [if_neg (show ¬ (1 : Int32) = 0 by decide)]
      rcases rng what 0 1 (by omega) (by omega) with ⟨k, -, hk, rfl⟩ | ⟨g1, g2⟩
      · have qk : (0 : Int32) ≤ nI k ∧ nI k ≤ 1 := ⟨nI_pos' (by omega), (nLe (b := 1) (by omega) (by omega)).mpr hk⟩
        rw [if_neg (nGt qk.1), if_pos qk.2] at eX
        obtain ⟨m, f, hCH, hm, hf, e1⟩ := c_longest N hN hw2 (x := x) (y := y) (by omega) (by omega) h3 (nI k) (f_X9_longest_J133 N) σ
        rw [e1] at eX
        refine SStep.mk hM hW (r := if k = 0 then nI (m - 1) else if m = 0 then -2 else nI f) (σ1 := σ) ?_ (FrX.rf σ) hC hX (fun τ M => ?_)
        · rw [eX]
          unfold f_X9_longest_J133
          by_cases k0 : k = 0
          · rw [if_pos (show nI k = 0 by rw [k0]; rfl), if_pos k0]
            cases m with
            | zero => rfl
            | succ m =>
              rw [enc_s, show (0 : Int32) = nI 0 from rfl, max_ok N (by omega) (by omega), obind, Nat.add_sub_cancel, Nat.max_eq_left (Nat.zero_le _)]
          · rw [if_neg (show ¬ nI k = 0 from neN (b := 0) (by omega) (by omega) k0), if_neg k0]
            by_cases m0 : m = 0
            · rw [if_neg (fun q => by have := (enc_p (by omega)).mp q; omega), if_pos m0]
            · rw [if_pos ((enc_p (by omega)).mpr (by omega)), if_neg m0]
        · have F0 : FrM [] [39, 40] τ (sF (sF τ 41 39 (-1)) 41 40 0) := ((FrM.rf _ _ τ).D (by decide)).D (by decide)
          obtain ⟨m', f', τ1, hCH', t1, t2, F1, e2⟩ := m_longest N hN hw2 (x := x) (y := y) (by omega) (by omega) h3 (nI k) (f_X10_longest_J179 N) (sF (sF τ 41 39 (-1)) 41 40 0) (by rw [sF_nb (by decide), sF_eq]) sF_eq
          obtain ⟨u1, u2⟩ := hCH.uniq hCH'
          subst u1; subst u2
          refine ⟨τ1, ?_, (F0.tr F1).y (by decide), M.fr (F0.tr F1) (by decide) (by decide)⟩
          rw [eM2, in_y N (lo := 0) (hi := 1) (by decide) (by decide) qk, obind]
          dsimp only
          rw [if_neg (show ¬ (1 : Int32) = 0 by decide), e2]
          unfold f_X10_longest_J179
          rw [t1, t2]
          by_cases k0 : k = 0
          · rw [if_pos (show nI k = 0 by rw [k0]; rfl), if_pos k0]
            cases m with
            | zero => rw [if_neg (show ¬ (0 : Int32) ≤ enc 0 by decide)]; rfl
            | succ m => rw [if_pos ((enc_p (by omega)).mpr (by omega)), enc_s, Nat.add_sub_cancel]
          · rw [if_neg (show ¬ nI k = 0 from neN (b := 0) (by omega) (by omega) k0), if_neg k0]
            by_cases m0 : m = 0
            · rw [if_neg (fun q => by have := (enc_p (by omega)).mp q; omega), if_pos m0]
            · rw [if_pos ((enc_p (by omega)).mpr (by omega)), if_neg m0]
      · refine SStep.ref R (r := -1) ?_ ?_
        · rw [eX]
          by_cases h5 : what < 0
          · rw [if_pos h5]
          · rw [if_neg h5, if_neg (show ¬ what ≤ 1 from nGe (g2.resolve_left h5))]
        · rw [eM2, in_n N (lo := 0) (hi := 1) (by decide) (by decide) g1, obind]; rfl
    · refine SStep.ref R (r := -1) ?_ ?_
      · rw [eX, h2, obind]; rfl
      · rw [eM, in_ok N a 0 (nI (2 ^ w - 1)) (by decide) rfl, obind]
        dsimp only
        by_cases g1 : (0 : Int32) ≤ a ∧ a ≤ nI (2 ^ w - 1)
        · rw [if_pos g1, if_neg (show ¬ (1 : Int32) = 0 by decide), in_ok N b 0 (nI (2 ^ w - 1)) (by decide) rfl, obind]
          dsimp only
          by_cases g2 : (0 : Int32) ≤ b ∧ b ≤ nI (2 ^ w - 1)
          · rw [if_pos g2, if_neg (show ¬ (1 : Int32) = 0 by decide), in_n N (lo := 0) (hi := 1) (by decide) (by decide) ((h1.resolve_left (fun z => z g1)).resolve_left (fun z => z g2)), obind]; rfl
          · rw [if_neg g2, if_pos rfl]
        · rw [if_neg g1, if_pos rfl]
  · refine SStep.ref R (r := -1) ?_ ?_
    · unfold f_X9_longest
      by_cases h3 : wi < 1
      · rw [if_pos h3]
      · rw [if_neg h3, if_pos (show (12 : Int32) < wi from h2.resolve_left h3)]
    · unfold f_X10_longest
      rw [in_n N (lo := 1) (hi := 12) (by decide) (by decide) h1, obind]; rfl
end
