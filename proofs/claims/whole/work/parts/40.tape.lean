/-! The tape: names and texts. -/
/-- the first below m with Q, or m -/
def fiF (Q : Nat → Bool) : Nat → Nat → Nat
  | 0, i => i
  | c + 1, i => if Q i = true then i else fiF Q c (i + 1)
def fiN (Q : Nat → Bool) (m : Nat) : Nat := fiF Q m 0
theorem fiF_ge (Q : Nat → Bool) : ∀ c i, i ≤ fiF Q c i
  | 0, i => Nat.le_refl _
  | c + 1, i => by
    unfold fiF
    split
    · exact Nat.le_refl _
    · have := fiF_ge Q c (i + 1); omega
theorem fiF_eq {Q : Nat → Bool} {m j : Nat} (h2 : j ≤ m) (h3 : ∀ k, k < j → Q k = false) (h4 : j < m → Q j = true) : ∀ c i, i + c = m → i ≤ j → fiF Q c i = j
  | 0, i, h, hi => by unfold fiF; omega
  | c + 1, i, h, hi => by
    unfold fiF
    by_cases hij : i = j
    · subst hij; rw [if_pos (h4 (by omega))]
    · rw [if_neg (by rw [h3 i (by omega)]; decide)]
      exact fiF_eq h2 h3 h4 c (i + 1) (by omega) (by omega)
theorem fiN_eq {Q : Nat → Bool} {m j : Nat} (h2 : j ≤ m) (h3 : ∀ k, k < j → Q k = false) (h4 : j < m → Q j = true) : fiN Q m = j := fiF_eq h2 h3 h4 m 0 (by omega) (Nat.zero_le _)
theorem fiN_sp (Q : Nat → Bool) (m : Nat) : fiN Q m ≤ m ∧ (∀ k, k < fiN Q m → Q k = false) ∧ (fiN Q m < m → Q (fiN Q m) = true) := by
  have key : ∀ c i, i + c = m → (∀ k, k < i → Q k = false) → ∃ j, j ≤ m ∧ (∀ k, k < j → Q k = false) ∧ (j < m → Q j = true) := by
    intro c
    induction c with
    | zero => intro i h hk; exact ⟨i, by omega, hk, fun z => by omega⟩
    | succ c ih =>
      intro i h hk
      cases hq : Q i with
      | true => exact ⟨i, by omega, hk, fun _ => hq⟩
      | false =>
        refine ih (i + 1) (by omega) (fun k hk2 => ?_)
        by_cases hki : k = i
        · rw [hki]; exact hq
        · exact hk k (by omega)
  obtain ⟨j, j1, j2, j3⟩ := key m 0 (by omega) (fun k hk => by omega)
  rw [fiN_eq j1 j2 j3]
  exact ⟨j1, j2, j3⟩
abbrev Txt : Type := List Nat
def isLt (x : Nat) : Bool := decide (97 ≤ x ∧ x ≤ 122)
/-- how many letters the tape begins with, four at most -/
def lett (T : Txt) : Nat := fiN (fun i => !isLt (T.getD i 0)) (min T.length 4)
def kdOf (x : Nat) : Option Nat := if x = 114 then some 0 else if x = 115 then some 1 else if x = 99 then some 2 else if x = 108 then some 3 else none
/-- blocks from a place on: the fault, or none and the blocks -/
def parsB (T : Txt) : Nat → Nat → Blk → Option Nat × Blk
  | 0, at_, bs => (some at_, bs)
  | f + 1, at_, bs =>
    if T.length ≤ at_ then ((if bs = [] then some at_ else none), bs)
    else match kdOf (T.getD at_ 0) with
      | none => (some at_, bs)
      | some k => if bs.length = 8 ∨ wid bs = 12 then (some at_, bs)
        else if T.length ≤ at_ + 1 then (some (at_ + 1), bs)
        else if T.getD (at_ + 1) 0 < 49 ∨ 54 < T.getD (at_ + 1) 0 ∨ 12 < wid bs + (T.getD (at_ + 1) 0 - 48) then (some (at_ + 1), bs)
        else parsB T f (at_ + 2) (bs ++ [(k, T.getD (at_ + 1) 0 - 48)])
def parsT (T : Txt) : Option Nat × Blk :=
  if lett T = 0 ∨ T.length ≤ lett T then (some (lett T), []) else if T.getD (lett T) 0 ≠ 61 then (some (lett T), []) else parsB T 41 (lett T + 1) []
def ncode : List Nat → Nat
  | [] => 0
  | x :: xs => x + 256 * ncode xs
def WTx (T : Txt) : Prop := ∀ x, x ∈ T → 32 ≤ x ∧ x ≤ 126
def WN (nm : List Nat) : Prop := 1 ≤ nm.length ∧ nm.length ≤ 4 ∧ ∀ x, x ∈ nm → 97 ≤ x ∧ x ≤ 122
/-- the tape as the class holds it -/
def CTp (σ : Wd) (T : Txt) : Prop := σ.1 1 1 = nI T.length ∧ T.length ≤ 40 ∧ WTx T ∧ ∀ i, i < T.length → σ.1 14 i = nI (T.getD i 0)
theorem CTp.fr {σ τ : Wd} {ks : List Nat} {T : Txt} (h : CTp σ T) (F : Fr ks σ τ) (h1 : 1 ∉ ks) (h14 : 14 ∉ ks) : CTp τ T := by
  obtain ⟨a, b, c, d⟩ := h
  exact ⟨by rw [F.i h1]; exact a, b, c, fun i hi => by rw [F.i h14]; exact d i hi⟩
theorem WTx.get {T : Txt} (h : WTx T) {i : Nat} (hi : i < T.length) : 32 ≤ T.getD i 0 ∧ T.getD i 0 ≤ 126 := by
  rw [List.getD_eq_getElem?_getD, List.getElem?_eq_getElem hi]
  exact h _ (List.getElem_mem hi)
theorem isl_ok (N : Nat) {x : Nat} (hx : x < 2147483648) (σ : Wd) : f_X7_isLetter N (nI x) σ = some (if isLt x = true then 1 else 0, σ) := by
  unfold f_X7_isLetter isLt
  by_cases h1 : x < 97
  · rw [if_pos (show nI x < 97 from (nLt (b := 97) hx (by omega)).mpr h1), if_neg (by simp; omega)]
  · rw [if_neg (show ¬ nI x < 97 from fun z => h1 ((nLt (b := 97) hx (by omega)).mp z))]
    by_cases h2 : 122 < x
    · rw [if_pos (show (122 : Int32) < nI x from (nLt (a := 122) (by omega) hx).mpr h2), if_neg (by simp; omega)]
    · rw [if_neg (show ¬ (122 : Int32) < nI x from fun z => h2 ((nLt (a := 122) (by omega) hx).mp z)), if_pos (by simp; omega)]
theorem letters_ok (N : Nat) (hN : 512 < N) {σ : Wd} {T : Txt} (h : CTp σ T) : f_X7_letters N σ = some (nI (lett T), σ) := by
  obtain ⟨h11, hl, hw, hT⟩ := h
  unfold f_X7_letters
  have h0 := hw
  obtain ⟨j, -, j2, j3, j4, j5⟩ := lp_find (g := fun fu i => f_X7_letters_L2 N (f_X7_letters_J33 N) fu (nI i) σ) (E := fun i => f_X7_letters_J33 N (nI i) σ) (Q := fun i => isLt (T.getD i 0) = false) (m := min T.length 4) (fun fu i hi hq => by
      have hle : ¬ T.length ≤ i := by omega
      have hle2 : ¬ 4 ≤ i := by omega
      have hb := hw.get (i := i) (by omega)
      have hq2 : isLt (T.getD i 0) = true := by simpa using hq
      simp (disch := omega) only [f_X7_letters_L2, h11, L4, nLe, hle, hle2, if_false, xld_n, obind, hT i (by omega), isl_ok, hq2, if_true, show ¬ (1 : Int32) = 0 by decide, nI_1]) (fun fu i hi hq => by
      have hle : ¬ T.length ≤ i := by omega
      have hle2 : ¬ 4 ≤ i := by omega
      have hb := hw.get (i := i) (by omega)
      have hq2 : ¬ isLt (T.getD i 0) = true := by rw [hq]; decide
      simp (disch := omega) only [f_X7_letters_L2, h11, L4, nLe, hle, hle2, if_false, xld_n, obind, hT i (by omega), isl_ok]
      rw [if_neg hq2, if_pos rfl]) (fun fu => by
      by_cases hc : T.length ≤ 4
      · rw [Nat.min_eq_left hc]
        simp (disch := omega) only [f_X7_letters_L2, h11, nLe, Nat.le_refl, if_true]
      · rw [Nat.min_eq_right (by omega)]
        have hle : ¬ T.length ≤ 4 := hc
        simp (disch := omega) only [f_X7_letters_L2, h11, nLe, hle, if_false, L4, Nat.le_refl, if_true]) (min T.length 4) N 0 (by omega) (by omega)
  have hj : lett T = j := fiN_eq j2 (fun k hk => by have := j3 k (by omega) hk; simpa using this) (fun hk => by show (!isLt (T.getD j 0)) = true; rw [j4 hk]; rfl)
  rw [hj]
  exact j5
theorem ncode_app : ∀ (l : List Nat) (x : Nat), ncode (l ++ [x]) = ncode l + x * 256 ^ l.length
  | [], x => by simp [ncode]
  | y :: l, x => by
    have := ncode_app l x
    simp only [List.cons_append, ncode, List.length_cons, Nat.pow_succ]
    rw [this, Nat.mul_add, ← Nat.mul_assoc, Nat.mul_comm 256 x, Nat.mul_assoc x 256, Nat.mul_comm 256 (256 ^ l.length)]
    omega
theorem ncode_lt : ∀ (l : List Nat), (∀ x, x ∈ l → x < 128) → ncode l < 256 ^ l.length ∧ (1 ≤ l.length → 2 * ncode l < 256 ^ l.length)
  | [], _ => by simp [ncode]
  | x :: l, h => by
    obtain ⟨h1, -⟩ := ncode_lt l (fun y hy => h y (List.mem_cons_of_mem _ hy))
    have h2 := h x List.mem_cons_self
    obtain ⟨h3, h4⟩ := ncode_lt l (fun y hy => h y (List.mem_cons_of_mem _ hy))
    simp only [ncode, List.length_cons, Nat.pow_succ]
    refine ⟨by omega, fun _ => ?_⟩
    by_cases hl : 1 ≤ l.length
    · have := h4 hl; omega
    · have : l = [] := by cases l with
        | nil => rfl
        | cons a b => simp at hl
      subst this
      simp [ncode]; omega
theorem ncode_bd {l : List Nat} (h : ∀ x, x ∈ l → x < 128) (hl : l.length ≤ 4) : ncode l < 2147483648 := by
  obtain ⟨h1, h2⟩ := ncode_lt l h
  have h3 : (256 : Nat) ^ l.length ≤ 256 ^ 4 := Nat.pow_le_pow_right (by decide) hl
  have h4 : (256 : Nat) ^ 4 = 4294967296 := by decide
  by_cases h5 : 1 ≤ l.length
  · have := h2 h5; omega
  · have : l.length = 0 := by omega
    rw [this] at h1; omega
theorem take_s {T : Txt} {i : Nat} (hi : i < T.length) : T.take (i + 1) = T.take i ++ [T.getD i 0] := by
  rw [List.take_add_one, List.getD_eq_getElem?_getD, List.getElem?_eq_getElem hi]; rfl
theorem nameCode_ok (N : Nat) (hN : 512 < N) {σ : Wd} {T : Txt} (h : CTp σ T) {m : Nat} (hm : m ≤ 4) (hm2 : m ≤ T.length) (hlt : ∀ i, i < m → T.getD i 0 < 128) : f_X7_nameCode N (nI m) σ = some (nI (ncode (T.take m)), σ) := by
  obtain ⟨h11, hl, hw, hT⟩ := h
  unfold f_X7_nameCode
  have hb : ∀ i, i ≤ m → ncode (T.take i) < 256 ^ i := fun i hi => by
    have := (ncode_lt (T.take i) (fun x hx => by
      have hx2 := hw x (List.mem_of_mem_take hx)
      omega)).1
    rw [List.length_take, Nat.min_eq_left (by omega)] at this
    exact this
  obtain ⟨c, rfl, e⟩ := lp_up (g := fun fu i c => f_X7_nameCode_L4 N (f_X7_nameCode_J29 N) fu (nI m) c (nI i) σ) (E := fun c => f_X7_nameCode_J29 N c σ) (P := fun i c => c = nI (ncode (T.take i))) (m := m) (fun fu i c hi hc => by
      subst hc
      have hle : ¬ m ≤ i := by omega
      have hbi := hb i (by omega)
      have h8 : (256 : Nat) ^ i = 2 ^ (8 * i) := by rw [Nat.pow_mul]
      have hp : 2 ^ (8 * i) ≤ 2 ^ 24 := Nat.pow_le_pow_right (by decide) (by omega)
      have hx := hlt i hi
      have hxm : T.getD i 0 * 2 ^ (8 * i) < 2 ^ 32 := by
        have : T.getD i 0 * 2 ^ (8 * i) ≤ 127 * 2 ^ 24 := Nat.mul_le_mul (by omega) hp
        omega
      have hsh : nI (T.getD i 0) <<< (((8 : Int32) * nI i) &&& 31) = nI (T.getD i 0 * 2 ^ (8 * i)) := by
        rw [show (8 : Int32) * nI i = nI (8 * i) from pk_mul 8 i]; exact nI_shl (by omega) hxm
      have hor : nI (ncode (T.take i)) ||| nI (T.getD i 0 * 2 ^ (8 * i)) = nI (ncode (T.take (i + 1))) := by
        rw [nI_or (by omega) hxm, or_add (by rw [← h8]; exact hbi), take_s (by omega), ncode_app, List.length_take, Nat.min_eq_left (by omega), h8]
      refine ⟨nI (ncode (T.take (i + 1))), rfl, ?_⟩
      simp (disch := omega) only [f_X7_nameCode_L4, nLe, hle, if_false, xld_n, obind, hT i (by omega), hsh, hor, nI_1]) (fun fu c hc => by
      simp (disch := omega) only [f_X7_nameCode_L4, nLe, Nat.le_refl, if_true]) m N 0 0 (by omega) (by omega) rfl
  exact e
theorem lett_sp (T : Txt) : lett T ≤ T.length ∧ lett T ≤ 4 ∧ (∀ k, k < lett T → 97 ≤ T.getD k 0 ∧ T.getD k 0 ≤ 122) := by
  obtain ⟨h1, h2, h3⟩ := fiN_sp (fun i => !isLt (T.getD i 0)) (min T.length 4)
  have h1' : lett T ≤ min T.length 4 := h1
  refine ⟨by omega, by omega, fun k hk => ?_⟩
  have := h2 k hk
  simpa [isLt] using this
theorem take_WN (T : Txt) {j : Nat} (hj : 1 ≤ j) (hl : j ≤ lett T) : WN (T.take j) := by
  obtain ⟨h1, h2, h3⟩ := lett_sp T
  refine ⟨by rw [List.length_take]; omega, by rw [List.length_take]; omega, fun x hx => ?_⟩
  obtain ⟨i, hi, rfl⟩ := List.getElem_of_mem hx
  rw [List.length_take] at hi
  have := h3 i (by omega)
  rw [List.getElem_take]
  rw [List.getD_eq_getElem?_getD, List.getElem?_eq_getElem (by omega)] at this
  exact this
/-- the name that the tape is -/
def tkName (T : Txt) : Option (List Nat) := if lett T = T.length ∧ 0 < T.length then some T else none
theorem takeName_ok (N : Nat) (hN : 512 < N) {σ : Wd} {T : Txt} (h : CTp σ T) : ∃ τ, f_X7_takeName N σ = some (match tkName T with | some nm => nI (ncode nm) | none => 0, τ) ∧ CTp τ [] ∧ Fr [1] σ τ := by
  obtain ⟨h1, h2, h3⟩ := lett_sp T
  have hl := h.2.1
  have hT0 : CTp (sF σ 1 1 0) [] := ⟨sF_eq, by simp, fun x hx => absurd hx List.not_mem_nil, fun i hi => absurd hi (Nat.not_lt_zero i)⟩
  unfold f_X7_takeName tkName
  rw [letters_ok N hN h, obind]
  dsimp only
  rw [h.1]
  by_cases hc : lett T = T.length
  · rw [if_pos (by rw [hc]), nameCode_ok N hN h h2 h1 (fun i hi => by have := h3 i hi; omega), obind]
    refine ⟨_, ?_, hT0, (Fr.rf _ σ).F (by decide)⟩
    try dsimp only
    congr 2
    rw [hc, List.take_length]
    by_cases h0 : 0 < T.length
    · rw [if_pos ⟨rfl, h0⟩]
    · rw [if_neg (fun z => h0 z.2)]
      have : T = [] := List.eq_nil_of_length_eq_zero (by omega)
      subst this; rfl
  · rw [if_neg (neN (by omega) (by omega) hc)]
    refine ⟨_, ?_, hT0, (Fr.rf _ σ).F (by decide)⟩
    try dsimp only
    rw [if_neg (fun z => hc z.1)]
theorem CTp.G {σ : Wd} {T : Txt} (h : CTp σ T) {k n : Nat} {x : Int64} : CTp (sG σ k n x) T := ⟨h.1, h.2.1, h.2.2.1, h.2.2.2⟩
theorem kdOf_lt {x k : Nat} (h : kdOf x = some k) : k < 4 := by
  unfold kdOf at h
  split at h
  · cases h; omega
  · split at h
    · cases h; omega
    · split at h
      · cases h; omega
      · split at h
        · cases h; omega
        · cases h
theorem ckind_ok (N : Nat) {x : Nat} (hx : x < 2147483648) (σ : Wd) : f_X7_kindOf N (nI x) σ = some (match kdOf x with | some k => nI k | none => -1, σ) := by
  unfold f_X7_kindOf
  by_cases h1 : x = 99
  · subst h1; rw [if_pos (show nI 99 = 99 from rfl)]; rfl
  · rw [if_neg (show ¬ nI x = 99 from neN (b := 99) hx (by omega) h1)]
    by_cases h2 : x = 108
    · subst h2; rw [if_pos (show nI 108 = 108 from rfl)]; rfl
    · rw [if_neg (show ¬ nI x = 108 from neN (b := 108) hx (by omega) h2)]
      by_cases h3 : x = 114
      · subst h3; rw [if_pos (show nI 114 = 114 from rfl)]; rfl
      · rw [if_neg (show ¬ nI x = 114 from neN (b := 114) hx (by omega) h3)]
        by_cases h4 : x = 115
        · subst h4; rw [if_pos (show nI 115 = 115 from rfl)]; rfl
        · rw [if_neg (show ¬ nI x = 115 from neN (b := 115) hx (by omega) h4)]
          unfold kdOf
          rw [if_neg h3, if_neg h4, if_neg h1, if_neg h2]
theorem dig_lt : ∀ x, x < 49 → nI x - 48 < 1 := by decide +kernel
theorem VB.app2 {bs : Blk} (V : VB bs) {k w : Nat} (hk : k < 4) (h1 : 1 ≤ w) (h6 : w ≤ 6) (hl : bs.length ≤ 7) (hw : wid bs + w ≤ 12) : VB (bs ++ [(k, w)]) := by
  refine ⟨by rw [List.length_append]; exact Nat.succ_le_succ hl, fun b hb => ?_, by rw [wid_app]; exact hw⟩
  rcases List.mem_append.mp hb with h | h
  · exact V.2.1 b h
  · rw [List.mem_singleton.mp h]; exact ⟨hk, h1, h6⟩
theorem parse_end (N : Nat) {σ : Wd} {T : Txt} (h : CTp σ T) {at_ fu f : Nat} {bs : Blk} (V : VB bs) (hle : T.length ≤ at_) (hat : at_ ≤ T.length) :
    ∃ τ, f_X7_parse_L41 N (f_X7_parse_J159 N) (fu + 1) (nI at_) (lN (bcode bs)) (nI bs.length) (nI (wid bs)) σ = some (match (parsB T (f + 1) at_ bs).1 with | some a => nI a | none => -1, τ) ∧ Fr [1] σ τ ∧ CTp τ T ∧ ((parsB T (f + 1) at_ bs).1 = none → τ.2 1 2 = lN (bcode (parsB T (f + 1) at_ bs).2) ∧ VB (parsB T (f + 1) at_ bs).2 ∧ (parsB T (f + 1) at_ bs).2 ≠ []) := by
  have hl := h.2.1
  unfold f_X7_parse_L41 parsB
  rw [h.1, if_pos ((nLe (by omega) (by omega)).mpr hle), if_pos hle]
  unfold f_X7_parse_J159
  dsimp only
  by_cases hb : bs = []
  · subst hb
    rw [if_pos (show nI ([] : Blk).length = 0 from rfl), if_pos rfl]
    exact ⟨_, rfl, (Fr.rf _ σ).G (by decide), h.G, fun z => by cases z⟩
  · have h0 : bs.length ≠ 0 := fun z => hb (List.eq_nil_of_length_eq_zero z)
    have := V.1
    rw [if_neg (show ¬ nI bs.length = 0 from neN (b := 0) (by omega) (by omega) h0), if_neg hb]
    exact ⟨_, rfl, (Fr.rf _ σ).G (by decide), h.G, fun _ => ⟨by rw [sG_2, if_pos rfl, if_pos rfl], V, hb⟩⟩
theorem parse_loop (N : Nat) {σ : Wd} {T : Txt} (h : CTp σ T) : ∀ (c fu f at_ : Nat) (bs : Blk), T.length ≤ at_ + c → at_ ≤ T.length → c < fu → c < f → VB bs →
    ∃ τ, f_X7_parse_L41 N (f_X7_parse_J159 N) fu (nI at_) (lN (bcode bs)) (nI bs.length) (nI (wid bs)) σ = some (match (parsB T f at_ bs).1 with | some a => nI a | none => -1, τ) ∧ Fr [1] σ τ ∧ CTp τ T ∧ ((parsB T f at_ bs).1 = none → τ.2 1 2 = lN (bcode (parsB T f at_ bs).2) ∧ VB (parsB T f at_ bs).2 ∧ (parsB T f at_ bs).2 ≠ [])
  | 0, fu + 1, f + 1, at_, bs, h1, h2, _, _, V => parse_end N h V (by omega) h2
  | c + 1, fu + 1, f + 1, at_, bs, h1, h2, h3, h4, V => by
    by_cases hle : T.length ≤ at_
    · exact parse_end N h V hle h2
    · obtain ⟨h11, hl, hw, hT⟩ := id h
      have hb := hw.get (i := at_) (by omega)
      have V1 := V.1
      have V2 := V.2.2
      unfold f_X7_parse_L41 parsB
      rw [h11, if_neg (fun z => hle ((nLe (by omega) (by omega)).mp z)), if_neg hle, xld_n (by omega) (by omega), obind, hT at_ (by omega), ckind_ok N (by omega), obind]
      dsimp only
      cases hk : kdOf (T.getD at_ 0) with
      | none =>
        dsimp only
        rw [if_pos (show (-1 : Int32) < 0 by decide)]
        exact ⟨σ, rfl, Fr.rf _ σ, h, fun z => by cases z⟩
      | some k =>
        have hk4 := kdOf_lt hk
        dsimp only
        rw [if_neg (show ¬ nI k < 0 from neg_lt k (by omega))]
        by_cases h8 : bs.length = 8
        · rw [if_pos (show nI bs.length = 8 by rw [h8]; rfl), if_pos (Or.inl h8)]
          exact ⟨σ, rfl, Fr.rf _ σ, h, fun z => by cases z⟩
        · rw [if_neg (show ¬ nI bs.length = 8 from neN (b := 8) (by omega) (by omega) h8)]
          by_cases h12 : wid bs = 12
          · rw [if_pos (show nI (wid bs) = 12 by rw [h12]; rfl), if_pos (Or.inr h12)]
            exact ⟨σ, rfl, Fr.rf _ σ, h, fun z => by cases z⟩
          · rw [if_neg (show ¬ nI (wid bs) = 12 from neN (b := 12) (by omega) (by omega) h12), if_neg (show ¬ (bs.length = 8 ∨ wid bs = 12) from fun z => z.elim h8 h12), nI_1, h11]
            by_cases he : T.length ≤ at_ + 1
            · rw [if_pos ((nLe (by omega) (by omega)).mpr he), if_pos he]
              unfold f_X7_parse_J105
              rw [if_pos (show (0 : Int32) < 1 by decide)]
              exact ⟨σ, rfl, Fr.rf _ σ, h, fun z => by cases z⟩
            · rw [if_neg (fun z => he ((nLe (by omega) (by omega)).mp z)), if_neg he, xld_n (by omega) (by omega), obind, hT (at_ + 1) (by omega)]
              unfold f_X7_parse_J105
              have hb1 := hw.get (i := at_ + 1) (by omega)
              generalize hx : T.getD (at_ + 1) 0 = x at hb1 ⊢
              by_cases h49 : x < 49
              · rw [if_pos (dig_lt x h49), if_pos (Or.inl h49)]
                exact ⟨σ, rfl, Fr.rf _ σ, h, fun z => by cases z⟩
              · have e : nI x - 48 = nI (x - 48) := pk_sub (a := x) (b := 48) (by omega)
                rw [e, if_neg (show ¬ nI (x - 48) < 1 from fun z => by have := (nLt (b := 1) (by omega) (by omega)).mp z; omega)]
                by_cases h54 : 54 < x
                · rw [if_pos (show (6 : Int32) < nI (x - 48) from (nLt (a := 6) (by omega) (by omega)).mpr (by omega)), if_pos (Or.inr (Or.inl h54))]
                  exact ⟨σ, rfl, Fr.rf _ σ, h, fun z => by cases z⟩
                · rw [if_neg (show ¬ (6 : Int32) < nI (x - 48) from fun z => by have := (nLt (a := 6) (by omega) (by omega)).mp z; omega), nI_add]
                  by_cases hw12 : 12 < wid bs + (x - 48)
                  · rw [if_neg (show ¬ nI (wid bs + (x - 48)) ≤ 12 from fun z => by have := (nLe (b := 12) (by omega) (by omega)).mp z; omega), if_pos (Or.inr (Or.inr hw12))]
                    exact ⟨σ, rfl, Fr.rf _ σ, h, fun z => by cases z⟩
                  · rw [if_pos (show nI (wid bs + (x - 48)) ≤ 12 from (nLe (b := 12) (by omega) (by omega)).mpr (by omega)), if_neg (show ¬ (x < 49 ∨ 54 < x ∨ 12 < wid bs + (x - 48)) from fun z => z.elim (fun z => h49 z) (fun z => z.elim (fun z => h54 z) (fun z => hw12 z))), with_ok N V (by omega) hk4 (by omega), obind, nI_1, nI_1]
                    dsimp only
                    have V3 := V.app2 hk4 (show 1 ≤ x - 48 by omega) (by omega) (by omega) (by omega)
                    have key := parse_loop N h c fu f (at_ + 2) (bs ++ [(k, x - 48)]) (by omega) (by omega) (by omega) (by omega) V3
                    rw [List.length_append, wid_app] at key
                    exact key
/-- the text parsed by the class -/
theorem parse_ok (N : Nat) (hN : 512 < N) {σ : Wd} {T : Txt} (h : CTp σ T) : ∃ τ, f_X7_parse N σ = some (match (parsT T).1 with | some a => nI a | none => -1, τ) ∧ Fr [1] σ τ ∧ CTp τ T ∧ ((parsT T).1 = none → τ.2 1 2 = lN (bcode (parsT T).2) ∧ VB (parsT T).2 ∧ (parsT T).2 ≠ [] ∧ 1 ≤ lett T) := by
  obtain ⟨l1, l2, l3⟩ := lett_sp T
  have hl := h.2.1
  unfold f_X7_parse parsT
  rw [letters_ok N hN h, obind]
  dsimp only
  by_cases h0 : lett T = 0
  · rw [if_pos (show nI (lett T) = 0 by rw [h0]; rfl), if_pos (Or.inl h0)]
    exact ⟨σ, rfl, Fr.rf _ σ, h, fun z => by cases z⟩
  · rw [if_neg (show ¬ nI (lett T) = 0 from neN (b := 0) (by omega) (by omega) h0), h.1]
    by_cases h1 : T.length ≤ lett T
    · rw [if_pos ((nLe (by omega) (by omega)).mpr h1), if_pos (Or.inr h1)]
      exact ⟨σ, rfl, Fr.rf _ σ, h, fun z => by cases z⟩
    · rw [if_neg (fun z => h1 ((nLe (by omega) (by omega)).mp z)), if_neg (show ¬ (lett T = 0 ∨ T.length ≤ lett T) from fun z => z.elim h0 h1), xld_n (by omega) (by omega), obind, h.2.2.2 _ (by omega)]
      have hb := h.2.2.1.get (i := lett T) (by omega)
      by_cases h61 : T.getD (lett T) 0 = 61
      · rw [if_pos (show nI (T.getD (lett T) 0) = 61 by rw [h61]; rfl), if_neg (fun z => z h61), nI_1]
        obtain ⟨τ, e, F, C, G⟩ := parse_loop N h 40 N 41 (lett T + 1) [] (by omega) (by omega) (by omega) (by omega) VB_nil
        exact ⟨τ, e, F, C, fun z => ⟨(G z).1, (G z).2.1, (G z).2.2, by omega⟩⟩
      · rw [if_neg (show ¬ nI (T.getD (lett T) 0) = 61 from neN (b := 61) (by omega) (by omega) h61), if_pos h61]
        exact ⟨σ, rfl, Fr.rf _ σ, h, fun z => by cases z⟩
theorem parsT_le (T : Txt) {a : Nat} (h : (parsT T).1 = some a) : a ≤ T.length := by
  have key : ∀ f at_ bs, at_ ≤ T.length → (parsB T f at_ bs).1 = some a → a ≤ T.length := by
    intro f
    induction f with
    | zero => intro at_ bs h1 h2; unfold parsB at h2; cases h2; exact h1
    | succ f ih =>
      intro at_ bs h1 h2
      unfold parsB at h2
      by_cases hle : T.length ≤ at_
      · rw [if_pos hle] at h2
        by_cases hb : bs = []
        · rw [if_pos hb] at h2; cases h2; exact h1
        · rw [if_neg hb] at h2; cases h2
      · rw [if_neg hle] at h2
        cases hk : kdOf (T.getD at_ 0) with
        | none => rw [hk] at h2; cases h2; exact h1
        | some k =>
          rw [hk] at h2
          dsimp only at h2
          by_cases c1 : bs.length = 8 ∨ wid bs = 12
          · rw [if_pos c1] at h2; cases h2; exact h1
          · rw [if_neg c1] at h2
            by_cases c2 : T.length ≤ at_ + 1
            · rw [if_pos c2] at h2; cases h2; omega
            · rw [if_neg c2] at h2
              by_cases c3 : T.getD (at_ + 1) 0 < 49 ∨ 54 < T.getD (at_ + 1) 0 ∨ 12 < wid bs + (T.getD (at_ + 1) 0 - 48)
              · rw [if_pos c3] at h2; cases h2; omega
              · rw [if_neg c3] at h2
                exact ih (at_ + 2) _ (by omega) h2
  have l1 := (lett_sp T).1
  unfold parsT at h
  by_cases h0 : lett T = 0 ∨ T.length ≤ lett T
  · rw [if_pos h0] at h; cases h; exact l1
  · rw [if_neg h0] at h
    by_cases h1 : T.getD (lett T) 0 ≠ 61
    · rw [if_pos h1] at h; cases h; exact l1
    · rw [if_neg h1] at h
      exact key 41 (lett T + 1) [] (by omega) h
theorem getD_app {T : Txt} {x i : Nat} : (T ++ [x]).getD i 0 = if i = T.length then x else T.getD i 0 := by
  by_cases h : i < T.length
  · rw [if_neg (by omega), List.getD_eq_getElem?_getD, List.getD_eq_getElem?_getD, List.getElem?_append_left h]
  · by_cases h2 : i = T.length
    · rw [if_pos h2, List.getD_eq_getElem?_getD, h2, List.getElem?_append_right (Nat.le_refl _), Nat.sub_self]; rfl
    · rw [if_neg h2, List.getD_eq_getElem?_getD, List.getD_eq_getElem?_getD, List.getElem?_eq_none (by rw [List.length_append]; simp; omega), List.getElem?_eq_none (by omega)]
theorem append_ok (N : Nat) {σ : Wd} {T : Txt} (h : CTp σ T) {x : Nat} (h32 : 32 ≤ x) (h126 : x ≤ 126) (hl : T.length < 40) : ∃ τ, f_X7_append N (nI x) σ = some (1, τ) ∧ Fr [1, 14] σ τ ∧ CTp τ (T ++ [x]) ∧ τ.1 1 1 = nI (T.length + 1) := by
  obtain ⟨h11, -, hw, hT⟩ := h
  unfold f_X7_append
  rw [h11, if_pos (show nI T.length < 40 from (nLt (b := 40) (by omega) (by omega)).mpr hl), xst_n hl (by omega), obind]
  dsimp only
  rw [sF_ne (show 1 ≠ 14 by decide), h11, nI_1]
  refine ⟨_, rfl, ((Fr.rf _ σ).F (by decide)).F (by decide), ⟨?_, ?_, ?_, ?_⟩, sF_eq⟩
  · rw [sF_eq, List.length_append]; rfl
  · rw [List.length_append]; exact hl
  · intro y hy
    rcases List.mem_append.mp hy with q | q
    · exact hw y q
    · rw [List.mem_singleton.mp q]; omega
  · intro i hi
    rw [List.length_append] at hi
    have hi2 : i < T.length + 1 := hi
    rw [sF_ne (show 14 ≠ 1 by decide), getD_app, sF_1, if_pos rfl]
    by_cases hc : i = T.length
    · rw [if_pos hc, if_pos hc]
    · rw [if_neg hc, if_neg hc]; exact hT i (by omega)
