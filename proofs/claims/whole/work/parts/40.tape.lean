/-! The tape: names and texts. -/
/-- the first below m with Q, or m -/
def fiF (Q : Nat → Bool) : Nat → Nat → Nat
  | 0, i => i
  | c + 1, i => if Q i = true then i else fiF Q c (i + 1)
def fiN (Q : Nat → Bool) (m : Nat) : Nat := fiF Q m 0
theorem fiF_ge (Q : Nat → Bool) : ∀ c i, i ≤ fiF Q c i
  | 0, i => Nat.le_refl _
  | c + 1, i => by
    unfold fiF
    split
    · exact Nat.le_refl _
    · have := fiF_ge Q c (i + 1); omega
theorem fiF_eq {Q : Nat → Bool} {m j : Nat} (h2 : j ≤ m) (h3 : ∀ k, k < j → Q k = false) (h4 : j < m → Q j = true) : ∀ c i, i + c = m → i ≤ j → fiF Q c i = j
  | 0, i, h, hi => by unfold fiF; omega
  | c + 1, i, h, hi => by
    unfold fiF
    by_cases hij : i = j
    · subst hij; rw [if_pos (h4 (by omega))]
    · rw [if_neg (by rw [h3 i (by omega)]; decide)]
      exact fiF_eq h2 h3 h4 c (i + 1) (by omega) (by omega)
theorem fiN_eq {Q : Nat → Bool} {m j : Nat} (h2 : j ≤ m) (h3 : ∀ k, k < j → Q k = false) (h4 : j < m → Q j = true) : fiN Q m = j := fiF_eq h2 h3 h4 m 0 (by omega) (Nat.zero_le _)
theorem fiN_sp (Q : Nat → Bool) (m : Nat) : fiN Q m ≤ m ∧ (∀ k, k < fiN Q m → Q k = false) ∧ (fiN Q m < m → Q (fiN Q m) = true) := by
  have key : ∀ c i, i + c = m → (∀ k, k < i → Q k = false) → ∃ j, j ≤ m ∧ (∀ k, k < j → Q k = false) ∧ (j < m → Q j = true) := by
    intro c
    induction c with
    | zero => intro i h hk; exact ⟨i, by omega, hk, fun z => by omega⟩
    | succ c ih =>
      intro i h hk
      cases hq : Q i with
      | true => exact ⟨i, by omega, hk, fun _ => hq⟩
      | false =>
        refine ih (i + 1) (by omega) (fun k hk2 => ?_)
        by_cases hki : k = i
        · rw [hki]; exact hq
        · exact hk k (by omega)
  obtain ⟨j, j1, j2, j3⟩ := key m 0 (by omega) (fun k hk => by omega)
  rw [fiN_eq j1 j2 j3]
  exact ⟨j1, j2, j3⟩
abbrev Txt : Type := List Nat
def isLt (x : Nat) : Bool := decide (97 ≤ x ∧ x ≤ 122)
/-- how many letters the tape begins with, four at most -/
def lett (T : Txt) : Nat := fiN (fun i => !isLt (T.getD i 0)) (min T.length 4)
def kdOf (x : Nat) : Option Nat := if x = 114 then some 0 else if x = 115 then some 1 else if x = 99 then some 2 else if x = 108 then some 3 else none
/-- blocks from a place on: the fault, or none and the blocks -/
def parsB (T : Txt) : Nat → Nat → Blk → Option Nat × Blk
  | 0, at_, bs => (some at_, bs)
  | f + 1, at_, bs =>
    if T.length ≤ at_ then ((if bs = [] then some at_ else none), bs)
    else match kdOf (T.getD at_ 0) with
      | none => (some at_, bs)
      | some k => if bs.length = 8 ∨ wid bs = 12 then (some at_, bs)
        else if T.length ≤ at_ + 1 then (some (at_ + 1), bs)
        else if T.getD (at_ + 1) 0 < 49 ∨ 54 < T.getD (at_ + 1) 0 ∨ 12 < wid bs + (T.getD (at_ + 1) 0 - 48) then (some (at_ + 1), bs)
        else parsB T f (at_ + 2) (bs ++ [(k, T.getD (at_ + 1) 0 - 48)])
def parsT (T : Txt) : Option Nat × Blk :=
  if lett T = 0 ∨ T.length ≤ lett T then (some (lett T), []) else if T.getD (lett T) 0 ≠ 61 then (some (lett T), []) else parsB T 41 (lett T + 1) []
def ncode : List Nat → Nat
  | [] => 0
  | x :: xs => x + 256 * ncode xs
def WT (T : Txt) : Prop := ∀ x, x ∈ T → 32 ≤ x ∧ x ≤ 126
def WN (nm : List Nat) : Prop := 1 ≤ nm.length ∧ nm.length ≤ 4 ∧ ∀ x, x ∈ nm → 97 ≤ x ∧ x ≤ 122
/-- the tape as the class holds it -/
def CTp (σ : Wd) (T : Txt) : Prop := σ.1 1 1 = nI T.length ∧ T.length ≤ 40 ∧ WT T ∧ ∀ i, i < T.length → σ.1 14 i = nI (T.getD i 0)
theorem CTp.fr {σ τ : Wd} {ks : List Nat} {T : Txt} (h : CTp σ T) (F : Fr ks σ τ) (h1 : 1 ∉ ks) (h14 : 14 ∉ ks) : CTp τ T := by
  obtain ⟨a, b, c, d⟩ := h
  exact ⟨by rw [F.i h1]; exact a, b, c, fun i hi => by rw [F.i h14]; exact d i hi⟩
theorem WT.get {T : Txt} (h : WT T) {i : Nat} (hi : i < T.length) : 32 ≤ T.getD i 0 ∧ T.getD i 0 ≤ 126 := by
  rw [List.getD_eq_getElem?_getD, List.getElem?_eq_getElem hi]
  exact h _ (List.getElem_mem hi)
theorem isl_ok (N : Nat) {x : Nat} (hx : x < 2147483648) (σ : Wd) : f_X7_isLetter N (nI x) σ = some (if isLt x = true then 1 else 0, σ) := by
  unfold f_X7_isLetter isLt
  by_cases h1 : x < 97
  · rw [if_pos ((nLt (b := 97) hx (by omega)).mpr h1), if_neg (by simp; omega)]
  · rw [if_neg (fun z => h1 ((nLt (b := 97) hx (by omega)).mp z))]
    by_cases h2 : 122 < x
    · rw [if_pos ((nLt (a := 122) (by omega) hx).mpr h2), if_neg (by simp; omega)]
    · rw [if_neg (fun z => h2 ((nLt (a := 122) (by omega) hx).mp z)), if_pos (by simp; omega)]
theorem letters_ok (N : Nat) (hN : 512 < N) {σ : Wd} {T : Txt} (h : CTp σ T) : f_X7_letters N σ = some (nI (lett T), σ) := by
  obtain ⟨h11, hl, hw, hT⟩ := h
  unfold f_X7_letters
  have h0 := hw
  obtain ⟨j, -, j2, j3, j4, j5⟩ := lp_find (g := fun fu i => f_X7_letters_L2 N (f_X7_letters_J33 N) fu (nI i) σ) (E := fun i => f_X7_letters_J33 N (nI i) σ) (Q := fun i => isLt (T.getD i 0) = false) (m := min T.length 4) (fun fu i hi hq => by
      have hle : ¬ T.length ≤ i := by omega
      have hle2 : ¬ 4 ≤ i := by omega
      have hb := hw.get (i := i) (by omega)
      have hq2 : isLt (T.getD i 0) = true := by simpa using hq
      simp (disch := omega) only [f_X7_letters_L2, h11, L4, nLe, hle, hle2, if_false, xld_n, obind, hT i (by omega), isl_ok, hq2, if_true, show ¬ (1 : Int32) = 0 by decide, nI_1]) (fun fu i hi hq => by
      have hle : ¬ T.length ≤ i := by omega
      have hle2 : ¬ 4 ≤ i := by omega
      have hb := hw.get (i := i) (by omega)
      have hq2 : ¬ isLt (T.getD i 0) = true := by rw [hq]; decide
      simp (disch := omega) only [f_X7_letters_L2, h11, L4, nLe, hle, hle2, if_false, xld_n, obind, hT i (by omega), isl_ok]
      rw [if_neg hq2, if_pos rfl]) (fun fu => by
      by_cases hc : T.length ≤ 4
      · rw [Nat.min_eq_left hc]
        simp (disch := omega) only [f_X7_letters_L2, h11, nLe, Nat.le_refl, if_true]
      · rw [Nat.min_eq_right (by omega)]
        have hle : ¬ T.length ≤ 4 := hc
        simp (disch := omega) only [f_X7_letters_L2, h11, nLe, hle, if_false, L4, Nat.le_refl, if_true]) (min T.length 4) N 0 (by omega) (by omega)
  have hj : lett T = j := fiN_eq j2 (fun k hk => by have := j3 k (by omega) hk; simpa using this) (fun hk => by have := j4 hk; simp [this])
  rw [hj]
  exact j5
theorem ncode_app : ∀ (l : List Nat) (x : Nat), ncode (l ++ [x]) = ncode l + x * 256 ^ l.length
  | [], x => by simp [ncode]
  | y :: l, x => by
    have := ncode_app l x
    simp only [List.cons_append, ncode, List.length_cons, Nat.pow_succ]
    rw [this, Nat.mul_add, ← Nat.mul_assoc, Nat.mul_comm 256 x, Nat.mul_assoc x 256, Nat.mul_comm 256 (256 ^ l.length)]
    omega
theorem ncode_lt : ∀ (l : List Nat), (∀ x, x ∈ l → x < 128) → ncode l < 256 ^ l.length ∧ (1 ≤ l.length → 2 * ncode l < 256 ^ l.length)
  | [], _ => by simp [ncode]
  | x :: l, h => by
    obtain ⟨h1, -⟩ := ncode_lt l (fun y hy => h y (List.mem_cons_of_mem _ hy))
    have h2 := h x List.mem_cons_self
    obtain ⟨h3, h4⟩ := ncode_lt l (fun y hy => h y (List.mem_cons_of_mem _ hy))
    simp only [ncode, List.length_cons, Nat.pow_succ]
    refine ⟨by omega, fun _ => ?_⟩
    by_cases hl : 1 ≤ l.length
    · have := h4 hl; omega
    · have : l = [] := by cases l with
        | nil => rfl
        | cons a b => simp at hl
      subst this
      simp [ncode]; omega
theorem ncode_bd {l : List Nat} (h : ∀ x, x ∈ l → x < 128) (hl : l.length ≤ 4) : ncode l < 2147483648 := by
  obtain ⟨h1, h2⟩ := ncode_lt l h
  have h3 : (256 : Nat) ^ l.length ≤ 256 ^ 4 := Nat.pow_le_pow_right (by decide) hl
  have h4 : (256 : Nat) ^ 4 = 4294967296 := by decide
  by_cases h5 : 1 ≤ l.length
  · have := h2 h5; omega
  · have : l.length = 0 := by omega
    rw [this] at h1; omega
theorem take_s {T : Txt} {i : Nat} (hi : i < T.length) : T.take (i + 1) = T.take i ++ [T.getD i 0] := by
  rw [List.take_add_one, List.getD_eq_getElem?_getD, List.getElem?_eq_getElem hi]; rfl
theorem nameCode_ok (N : Nat) (hN : 512 < N) {σ : Wd} {T : Txt} (h : CTp σ T) {m : Nat} (hm : m ≤ 4) (hm2 : m ≤ T.length) (hlt : ∀ i, i < m → T.getD i 0 < 128) : f_X7_nameCode N (nI m) σ = some (nI (ncode (T.take m)), σ) := by
  obtain ⟨h11, hl, hw, hT⟩ := h
  unfold f_X7_nameCode
  have hb : ∀ i, i ≤ m → ncode (T.take i) < 256 ^ i := fun i hi => by
    have := (ncode_lt (T.take i) (fun x hx => by
      have hx2 := hw x (List.mem_of_mem_take hx)
      omega)).1
    rw [List.length_take, Nat.min_eq_left (by omega)] at this
    exact this
  obtain ⟨c, rfl, e⟩ := lp_up (g := fun fu i c => f_X7_nameCode_L4 N (f_X7_nameCode_J29 N) fu (nI m) c (nI i) σ) (E := fun c => f_X7_nameCode_J29 N c σ) (P := fun i c => c = nI (ncode (T.take i))) (m := m) (fun fu i c hi hc => by
      subst hc
      have hle : ¬ m ≤ i := by omega
      have hbi := hb i (by omega)
      have h8 : (256 : Nat) ^ i = 2 ^ (8 * i) := by rw [Nat.pow_mul]
      have hp : 2 ^ (8 * i) ≤ 2 ^ 24 := Nat.pow_le_pow_right (by decide) (by omega)
      have hx := hlt i hi
      have hxm : T.getD i 0 * 2 ^ (8 * i) < 2 ^ 32 := by
        have : T.getD i 0 * 2 ^ (8 * i) ≤ 127 * 2 ^ 24 := Nat.mul_le_mul (by omega) hp
        omega
      have hsh : nI (T.getD i 0) <<< (((8 : Int32) * nI i) &&& 31) = nI (T.getD i 0 * 2 ^ (8 * i)) := by
        rw [show (8 : Int32) * nI i = nI (8 * i) from pk_mul 8 i]; exact nI_shl (by omega) hxm
      have hor : nI (ncode (T.take i)) ||| nI (T.getD i 0 * 2 ^ (8 * i)) = nI (ncode (T.take (i + 1))) := by
        rw [nI_or (by omega) hxm, or_add (by rw [← h8]; exact hbi), take_s (by omega), ncode_app, List.length_take, Nat.min_eq_left (by omega), h8]
      refine ⟨nI (ncode (T.take (i + 1))), rfl, ?_⟩
      simp (disch := omega) only [f_X7_nameCode_L4, nLe, hle, if_false, xld_n, obind, hT i (by omega), hsh, hor, nI_1]) (fun fu c hc => by
      simp (disch := omega) only [f_X7_nameCode_L4, nLe, Nat.le_refl, if_true]) m N 0 0 (by omega) (by omega) rfl
  exact e
theorem lett_sp (T : Txt) : lett T ≤ T.length ∧ lett T ≤ 4 ∧ (∀ k, k < lett T → 97 ≤ T.getD k 0 ∧ T.getD k 0 ≤ 122) := by
  obtain ⟨h1, h2, h3⟩ := fiN_sp (fun i => !isLt (T.getD i 0)) (min T.length 4)
  have h1' : lett T ≤ min T.length 4 := h1
  refine ⟨by omega, by omega, fun k hk => ?_⟩
  have := h2 k hk
  simpa [isLt] using this
theorem take_WN (T : Txt) {j : Nat} (hj : 1 ≤ j) (hl : j ≤ lett T) : WN (T.take j) := by
  obtain ⟨h1, h2, h3⟩ := lett_sp T
  refine ⟨by rw [List.length_take]; omega, by rw [List.length_take]; omega, fun x hx => ?_⟩
  obtain ⟨i, hi, rfl⟩ := List.getElem_of_mem hx
  rw [List.length_take] at hi
  have := h3 i (by omega)
  rw [List.getElem_take]
  rw [List.getD_eq_getElem?_getD, List.getElem?_eq_getElem (by omega)] at this
  exact this
/-- the name that the tape is -/
def tkName (T : Txt) : Option (List Nat) := if lett T = T.length ∧ 0 < T.length then some T else none
theorem takeName_ok (N : Nat) (hN : 512 < N) {σ : Wd} {T : Txt} (h : CTp σ T) : ∃ τ, f_X7_takeName N σ = some (match tkName T with | some nm => nI (ncode nm) | none => 0, τ) ∧ CTp τ [] ∧ Fr [1] σ τ := by
  obtain ⟨h1, h2, h3⟩ := lett_sp T
  have hl := h.2.1
  have hT0 : CTp (sF σ 1 1 0) [] := ⟨sF_eq, by simp, fun x hx => absurd hx List.not_mem_nil, fun i hi => absurd hi (Nat.not_lt_zero i)⟩
  unfold f_X7_takeName tkName
  rw [letters_ok N hN h, obind]
  dsimp only
  rw [h.1]
  by_cases hc : lett T = T.length
  · rw [if_pos (by rw [hc]), nameCode_ok N hN h h2 h1 (fun i hi => by have := h3 i hi; omega), obind]
    refine ⟨_, ?_, hT0, (Fr.rf _ σ).F (by decide)⟩
    dsimp only
    congr 2
    rw [hc, List.take_length]
    by_cases h0 : 0 < T.length
    · rw [if_pos ⟨rfl, h0⟩]
    · rw [if_neg (fun z => h0 z.2)]
      have : T = [] := List.eq_nil_of_length_eq_zero (by omega)
      subst this; rfl
  · rw [if_neg (neN (by omega) (by omega) hc)]
    refine ⟨_, ?_, hT0, (Fr.rf _ σ).F (by decide)⟩
    dsimp only
    rw [if_neg (fun z => hc z.1)]
