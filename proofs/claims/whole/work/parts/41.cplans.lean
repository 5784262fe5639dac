section
/-! Plans and what is known, as the class holds them. -/
theorem fa_lt (a b : Int32) : a < b ↔ a.toInt < b.toInt := Int32.lt_iff_toInt_lt
theorem fa_le (a b : Int32) : a ≤ b ↔ a.toInt ≤ b.toInt := Int32.le_iff_toInt_le
theorem fa_eq (a b : Int32) : a = b ↔ a.toInt = b.toInt := Int32.toInt_inj.symm
theorem fa_lt64 (a b : Int64) : a < b ↔ a.toInt < b.toInt := Int64.lt_iff_toInt_lt
theorem fa_le64 (a b : Int64) : a ≤ b ↔ a.toInt ≤ b.toInt := Int64.le_iff_toInt_le
theorem fa_wide_lt (a b : Int32) : a.toInt64 < b.toInt64 ↔ a < b := by rw [fa_lt64, fa_lt, Int32.toInt_toInt64, Int32.toInt_toInt64]
theorem fa_wide_le (a b : Int32) : a.toInt64 ≤ b.toInt64 ↔ a ≤ b := by rw [fa_le64, fa_le, Int32.toInt_toInt64, Int32.toInt_toInt64]
theorem i32c (x : Int32) : x < 0 ∨ ∃ n, n < 2147483648 ∧ x = nI n := by
  by_cases h : x < 0
  · exact Or.inl h
  · obtain ⟨j, h1, h2⟩ := nI_of h; exact Or.inr ⟨j, h1, h2⟩
theorem nGe {a b : Int32} (h : a < b) : ¬ b ≤ a := fun z => by rw [fa_lt] at h; rw [fa_le] at z; omega
theorem nGt {a b : Int32} (h : a ≤ b) : ¬ b < a := fun z => by rw [fa_le] at h; rw [fa_lt] at z; omega
theorem gLe {a b : Int32} (h : ¬ a < b) : b ≤ a := by rw [fa_lt] at h; rw [fa_le]; omega
theorem gLt {a b : Int32} (h : ¬ a ≤ b) : b < a := by rw [fa_le] at h; rw [fa_lt]; omega
theorem lgN {a b : Nat} (ha : a < 9223372036854775808) (hb : b < 9223372036854775808) : (lg_cmp (lN a) (lN b) = 0) ↔ a = b := by
  rw [lg_cmp_eq]; exact pk_lEQ ha hb
theorem lgB {a b : Blk} (A : VB a) (B : VB b) : (lg_cmp (lN (bcode a)) (lN (bcode b)) = 0) ↔ a = b := by
  rw [lg_cmp_eq]
  exact ⟨fun h => VB.inj A B h, fun h => by rw [h]⟩
/-- how many of the first -/
def ctb (Q : Nat → Bool) : Nat → Nat
  | 0 => 0
  | i + 1 => ctb Q i + if Q i = true then 1 else 0
theorem ctb_le (Q : Nat → Bool) : ∀ i, ctb Q i ≤ i
  | 0 => Nat.le_refl _
  | i + 1 => by
    have := ctb_le Q i
    unfold ctb
    split <;> omega
theorem ctb_cg {Q R : Nat → Bool} : ∀ i, (∀ j, j < i → Q j = R j) → ctb Q i = ctb R i
  | 0, _ => rfl
  | i + 1, h => by unfold ctb; rw [ctb_cg i (fun j hj => h j (by omega)), h i (by omega)]
abbrev Pl : Type := List (List Nat × Blk)
def WP (P : Pl) : Prop := P.length ≤ 12 ∧ (∀ p, p ∈ P → WN p.1 ∧ VB p.2 ∧ p.2 ≠ []) ∧ (P.map Prod.fst).Nodup
def CPl (σ : Wd) (P : Pl) : Prop := σ.1 2 2 = nI P.length ∧ ∀ i p, P[i]? = some p → σ.1 15 i = nI (ncode p.1) ∧ σ.2 16 i = lN (bcode p.2)
theorem CPl.fr {σ τ : Wd} {ks : List Nat} {P : Pl} (h : CPl σ P) (F : Fr ks σ τ) (h2 : 2 ∉ ks) (h15 : 15 ∉ ks) (h16 : 16 ∉ ks) : CPl τ P :=
  ⟨by rw [F.i h2]; exact h.1, fun i p hp => ⟨by rw [F.i h15]; exact (h.2 i p hp).1, by rw [F.l h16]; exact (h.2 i p hp).2⟩⟩
theorem WP.at {P : Pl} (W : WP P) {i : Nat} {p : List Nat × Blk} (h : P[i]? = some p) : WN p.1 ∧ VB p.2 ∧ p.2 ≠ [] := W.2.1 p (List.mem_of_getElem? h)
/-- a number of a plan, or none -/
theorem plc (P : Pl) (hP : P.length ≤ 12) (x : Int32) : (∃ n p, x = nI n ∧ n < P.length ∧ P[n]? = some p) ∨ (x < 0 ∨ nI P.length ≤ x) := by
  rcases i32c x with h | ⟨n, h1, rfl⟩
  · exact Or.inr (Or.inl h)
  · by_cases hn : n < P.length
    · exact Or.inl ⟨n, P[n], rfl, hn, List.getElem?_eq_getElem hn⟩
    · exact Or.inr (Or.inr ((nLe (by omega) h1).mpr (by omega)))
theorem has_y (N : Nat) {σ : Wd} {P : Pl} (h : CPl σ P) (hP : P.length ≤ 12) {n : Nat} (hn : n < P.length) : f_X3_has N (nI n) σ = some (1, σ) := by
  unfold f_X3_has
  rw [if_neg (show ¬ nI n < 0 from neg_lt n (by omega)), h.1, if_neg (fun z => by have := (nLe (by omega) (by omega)).mp z; omega)]
theorem has_n (N : Nat) {σ : Wd} {P : Pl} (h : CPl σ P) {x : Int32} (hx : x < 0 ∨ nI P.length ≤ x) : f_X3_has N x σ = some (0, σ) := by
  unfold f_X3_has
  by_cases h0 : x < 0
  · rw [if_pos h0]
  · rw [if_neg h0, h.1, if_pos (hx.resolve_left h0)]
theorem ncode_inj : ∀ (a b : List Nat), (∀ x, x ∈ a → 97 ≤ x ∧ x ≤ 122) → (∀ x, x ∈ b → 97 ≤ x ∧ x ≤ 122) → ncode a = ncode b → a = b
  | [], [], _, _, _ => rfl
  | [], y :: b, _, hb, h => by
    have := hb y List.mem_cons_self
    simp only [ncode] at h; omega
  | x :: a, [], ha, _, h => by
    have := ha x List.mem_cons_self
    simp only [ncode] at h; omega
  | x :: a, y :: b, ha, hb, h => by
    have h1 := ha x List.mem_cons_self
    have h2 := hb y List.mem_cons_self
    simp only [ncode] at h
    have h3 : x = y := by omega
    have h4 : ncode a = ncode b := by omega
    rw [h3, ncode_inj a b (fun z hz => ha z (List.mem_cons_of_mem _ hz)) (fun z hz => hb z (List.mem_cons_of_mem _ hz)) h4]
theorem WN.inj {a b : List Nat} (A : WN a) (B : WN b) (h : ncode a = ncode b) : a = b := ncode_inj a b A.2.2 B.2.2 h
theorem WN.bd {a : List Nat} (A : WN a) : ncode a < 2147483648 := ncode_bd (fun x hx => by have := A.2.2 x hx; omega) A.2.1
theorem WN.pos {a : List Nat} (A : WN a) : ncode a ≠ 0 := by
  obtain ⟨h1, -, h3⟩ := A
  cases a with
  | nil => simp at h1
  | cons x a =>
    have := h3 x List.mem_cons_self
    simp only [ncode]; omega
theorem WN.getD {a : List Nat} (A : WN a) {i : Nat} : (i < a.length → 97 ≤ a.getD i 0 ∧ a.getD i 0 ≤ 122) ∧ (a.length ≤ i → a.getD i 0 = 0) := by
  refine ⟨fun hi => ?_, fun hi => ?_⟩
  · rw [List.getD_eq_getElem?_getD, List.getElem?_eq_getElem hi]
    exact A.2.2 _ (List.getElem_mem hi)
  · rw [List.getD_eq_getElem?_getD, List.getElem?_eq_none hi]; rfl
theorem ncode_get : ∀ (a : List Nat), (∀ x, x ∈ a → x < 256) → ∀ i, ncode a / 256 ^ i % 256 = a.getD i 0
  | [], _, i => by simp [ncode]
  | x :: a, h, 0 => by
    have := h x List.mem_cons_self
    simp [ncode]; omega
  | x :: a, h, i + 1 => by
    have h1 := h x List.mem_cons_self
    have h2 := ncode_get a (fun y hy => h y (List.mem_cons_of_mem _ hy)) i
    rw [Nat.pow_succ, Nat.mul_comm, ← Nat.div_div_eq_div_mul]
    simp only [ncode]
    rw [show (x + 256 * ncode a) / 256 = ncode a by omega, h2]
    rfl
theorem letter_ok {a : List Nat} (A : WN a) {i : Nat} (hi : i < 4) : (nI (ncode a) >>> (((8 : Int32) * nI i) &&& 31)) &&& 255 = nI (a.getD i 0) := by
  rw [show (8 : Int32) * nI i = nI (8 * i) from pk_mul 8 i, nI_shr A.bd (by omega), nI_and _ 8 (by decide) (by decide)]
  rw [Nat.pow_mul, show (2 : Nat) ^ 8 = 256 by decide, ncode_get a (fun x hx => by have := A.2.2 x hx; omega)]
theorem nameLength_ok (N : Nat) (hN : 512 < N) {σ : Wd} {P : Pl} (h : CPl σ P) (W : WP P) {n : Nat} {p : List Nat × Blk} (hp : P[n]? = some p) : f_X3_nameLength N (nI n) σ = some (nI p.1.length, σ) := by
  have A := (W.at hp).1
  have hn : n < P.length := (List.getElem?_eq_some_iff.mp hp).1
  have hP := W.1
  unfold f_X3_nameLength
  obtain ⟨j, -, j2, j3, j4, j5⟩ := lp_find (g := fun fu i => f_X3_nameLength_L2 N (f_X3_nameLength_J31 N) fu (nI n) (nI i) σ) (E := fun i => f_X3_nameLength_J31 N (nI i) σ) (Q := fun i => p.1.getD i 0 = 0) (m := 4) (fun fu i hi hq => by
      have hd := A.getD (i := i)
      have hlt : i < p.1.length := by
        by_cases hc : i < p.1.length
        · exact hc
        · exact absurd (hd.2 (by omega)) hq
      have := hd.1 hlt
      rw [f_X3_nameLength_L2]
      rw [if_neg (show ¬ (4 : Int32) ≤ nI i from fun z => by have := (nLe (a := 4) (by omega) (by omega)).mp z; omega), xld_n (by omega) (by omega), obind, (h.2 n p hp).1, letter_ok A hi, if_neg (show ¬ nI (p.1.getD i 0) = 0 from neN (b := 0) (by omega) (by omega) hq), nI_1]) (fun fu i hi hq => by
      rw [f_X3_nameLength_L2]
      rw [if_neg (show ¬ (4 : Int32) ≤ nI i from fun z => by have := (nLe (a := 4) (by omega) (by omega)).mp z; omega), xld_n (by omega) (by omega), obind, (h.2 n p hp).1, letter_ok A hi, hq, if_pos (show nI 0 = 0 from rfl)]) (fun fu => by
      rw [f_X3_nameLength_L2]
      rw [if_pos (show (4 : Int32) ≤ nI 4 from (nLe (a := 4) (by omega) (by omega)).mpr (Nat.le_refl 4))]) 4 N 0 (by omega) (by omega)
  have hj : j = p.1.length := by
    have hl := A.2.1
    by_cases hc : j < p.1.length
    · have := (A.getD (i := j)).1 hc
      have := j4 (by omega)
      omega
    · by_cases hc2 : p.1.length < j
      · exact absurd ((A.getD (i := p.1.length)).2 (Nat.le_refl _)) (j3 _ (Nat.zero_le _) hc2)
      · omega
  rw [← hj]
  exact j5
/-- the place of a name, or how many there are -/
def pix (P : Pl) (nm : List Nat) : Nat := fiN (fun i => decide ((P[i]?).map Prod.fst = some nm)) P.length
theorem pix_y {P : Pl} {nm : List Nat} (h : pix P nm < P.length) : ∃ bs, P[pix P nm]? = some (nm, bs) := by
  have := (fiN_sp (fun i => decide ((P[i]?).map Prod.fst = some nm)) P.length).2.2 h
  have h2 : (P[pix P nm]?).map Prod.fst = some nm := of_decide_eq_true this
  cases hp : P[pix P nm]? with
  | none => rw [hp] at h2; cases h2
  | some p =>
    rw [hp] at h2
    obtain ⟨a, b⟩ := p
    have : a = nm := Option.some.inj h2
    subst this
    exact ⟨b, rfl⟩
theorem pix_le (P : Pl) (nm : List Nat) : pix P nm ≤ P.length := (fiN_sp _ _).1
theorem pix_n {P : Pl} {nm : List Nat} {i : Nat} (h : i < pix P nm) {p : List Nat × Blk} (hp : P[i]? = some p) : p.1 ≠ nm := fun e => by
  have h1 := (fiN_sp (fun i => decide ((P[i]?).map Prod.fst = some nm)) P.length).2.1 i h
  have h2 : ¬ (P[i]?).map Prod.fst = some nm := of_decide_eq_false h1
  rw [hp] at h2
  exact h2 (by rw [← e]; rfl)
theorem pix_nm {P : Pl} {nm : List Nat} (h : ¬ pix P nm < P.length) : ∀ p, p ∈ P → p.1 ≠ nm := fun p hp => by
  obtain ⟨i, hi, e⟩ := List.getElem_of_mem hp
  exact pix_n (P := P) (i := i) (by omega) (by rw [List.getElem?_eq_getElem hi, e])
theorem numberOf_ok (N : Nat) (hN : 512 < N) {σ : Wd} {P : Pl} (h : CPl σ P) (W : WP P) {nm : List Nat} (A : WN nm) : f_X3_numberOf N (nI (ncode nm)) σ = some (if pix P nm < P.length then nI (pix P nm) else -2, σ) := by
  have hP := W.1
  unfold f_X3_numberOf
  obtain ⟨j, -, j2, j3, j4, j5⟩ := lp_find (g := fun fu i => f_X3_numberOf_L2 N (f_X3_numberOf_J28 N) fu (nI (ncode nm)) (nI i) σ) (E := fun i => some (if i < P.length then nI i else -2, σ)) (Q := fun i => (P[i]?).map Prod.fst = some nm) (m := P.length) (fun fu i hi hq => by
      have hp : P[i]? = some P[i] := List.getElem?_eq_getElem hi
      have B := (W.at hp).1
      rw [f_X3_numberOf_L2]
      rw [h.1, if_neg (fun z => by have := (nLe (by omega) (by omega)).mp z; omega), xld_n (by omega) (by omega), obind, (h.2 i _ hp).1, if_neg (neN B.bd A.bd (fun z => hq (by rw [hp, ← B.inj A z]; rfl))), nI_1]) (fun fu i hi hq => by
      have hp : P[i]? = some P[i] := List.getElem?_eq_getElem hi
      rw [hp] at hq
      have hq2 : P[i].1 = nm := Option.some.inj hq
      rw [f_X3_numberOf_L2]
      rw [h.1, if_neg (fun z => by have := (nLe (by omega) (by omega)).mp z; omega), xld_n (by omega) (by omega), obind, (h.2 i _ hp).1, hq2, if_pos rfl, if_pos hi]) (fun fu => by
      rw [f_X3_numberOf_L2]
      rw [h.1, if_pos ((nLe (by omega) (by omega)).mpr (Nat.le_refl _)), if_neg (Nat.lt_irrefl _)]; rfl) P.length N 0 (by omega) (by omega)
  have hj : pix P nm = j := fiN_eq j2 (fun k hk => decide_eq_false (j3 k (Nat.zero_le _) hk)) (fun hk => decide_eq_true (j4 hk))
  rw [hj]
  exact j5
/-- a name gets blocks -/
def tellP (P : Pl) (nm : List Nat) (bs : Blk) : Pl := if pix P nm < P.length then P.set (pix P nm) (nm, bs) else P ++ [(nm, bs)]
theorem getE_set {α : Type} {l : List α} {i j : Nat} {x : α} (hi : i < l.length) : (l.set i x)[j]? = if j = i then some x else l[j]? := by
  rw [List.getElem?_set]
  by_cases h : i = j
  · subst h; rw [if_pos rfl, if_pos hi, if_pos rfl]
  · rw [if_neg h, if_neg (fun z => h z.symm)]
theorem getE_app {α : Type} {l : List α} {j : Nat} {x : α} : (l ++ [x])[j]? = if j = l.length then some x else l[j]? := by
  by_cases h : j < l.length
  · rw [if_neg (by omega), List.getElem?_append_left h]
  · by_cases h2 : j = l.length
    · rw [if_pos h2, List.getElem?_append_right (by omega), h2, Nat.sub_self]; rfl
    · rw [if_neg h2, List.getElem?_eq_none (by rw [List.length_append]; simp; omega), List.getElem?_eq_none (by omega)]
theorem map_set_self {α β : Type} (f : α → β) : ∀ (l : List α) (i : Nat) (x : α), (l[i]?).map f = some (f x) → (l.set i x).map f = l.map f
  | [], i, x, h => rfl
  | a :: l, 0, x, h => by
    have : f a = f x := by simpa using h
    simp [this]
  | a :: l, i + 1, x, h => by
    have := map_set_self f l i x (by simpa using h)
    simp only [List.set_cons_succ, List.map_cons, this]
theorem WP.tell {P : Pl} (W : WP P) {nm : List Nat} {bs : Blk} (A : WN nm) (V : VB bs) (hb : bs ≠ []) (hl : pix P nm < P.length ∨ P.length < 12) : WP (tellP P nm bs) := by
  obtain ⟨h1, h2, h3⟩ := W
  unfold tellP
  by_cases hc : pix P nm < P.length
  · rw [if_pos hc]
    obtain ⟨b, hb2⟩ := pix_y hc
    refine ⟨by rw [List.length_set]; exact h1, fun p hp => ?_, ?_⟩
    · rcases List.mem_or_eq_of_mem_set hp with q | q
      · exact h2 p q
      · rw [q]; exact ⟨A, V, hb⟩
    · rw [map_set_self Prod.fst P (pix P nm) (nm, bs) (by rw [hb2]; rfl)]; exact h3
  · rw [if_neg hc]
    have hl2 := hl.resolve_left hc
    refine ⟨by rw [List.length_append]; exact hl2, fun p hp => ?_, ?_⟩
    · rcases List.mem_append.mp hp with q | q
      · exact h2 p q
      · rw [List.mem_singleton.mp q]; exact ⟨A, V, hb⟩
    · rw [List.map_append]
      refine List.nodup_append.mpr ⟨h3, by simp, fun x hx y hy => ?_⟩
      have hy2 : y = nm := by simpa using hy
      obtain ⟨p, hp, e⟩ := List.mem_map.mp hx
      rw [hy2, ← e]
      exact pix_nm hc p hp
theorem tell_ok (N : Nat) (hN : 512 < N) {σ : Wd} {P : Pl} (h : CPl σ P) (W : WP P) {nm : List Nat} (A : WN nm) {bs : Blk} :
    ((pix P nm < P.length ∨ P.length < 12) ∧ ∃ τ, f_X3_tell N (nI (ncode nm)) (lN (bcode bs)) σ = some (nI (pix P nm), τ) ∧ CPl τ (tellP P nm bs) ∧ Fr [2, 15, 16] σ τ) ∨ (¬ (pix P nm < P.length ∨ P.length < 12) ∧ f_X3_tell N (nI (ncode nm)) (lN (bcode bs)) σ = some (-3, σ)) := by
  have hP := W.1
  have hle := pix_le P nm
  unfold f_X3_tell tellP
  rw [numberOf_ok N hN h W A, obind]
  dsimp only
  by_cases hc : pix P nm < P.length
  · left
    refine ⟨Or.inl hc, ?_⟩
    rw [if_pos hc, if_pos (nI_pos' (by omega)), xstL_n (by omega) (by omega), obind, if_pos hc]
    refine ⟨_, rfl, ⟨?_, fun i p hp => ?_⟩, (Fr.rf _ σ).G (by decide)⟩
    · rw [sG_1, List.length_set]; exact h.1
    · rw [getE_set hc] at hp
      obtain ⟨b, hb⟩ := pix_y hc
      rw [sG_1, sG_2, if_pos rfl]
      by_cases hi : i = pix P nm
      · rw [if_pos hi] at hp ⊢
        cases hp
        rw [hi]
        exact ⟨(h.2 _ _ hb).1, rfl⟩
      · rw [if_neg hi] at hp ⊢
        exact h.2 i p hp
  · rw [if_neg hc, if_neg (show ¬ (0 : Int32) ≤ -2 by decide), h.1, if_neg hc]
    have he : pix P nm = P.length := by omega
    by_cases hl : P.length < 12
    · left
      refine ⟨Or.inr hl, ?_⟩
      rw [if_pos (show nI P.length < 12 from (nLt (b := 12) (by omega) (by omega)).mpr hl), xst_n hl (by omega), obind]
      try dsimp only
      rw [xstL_n hl (by omega), obind, sF_ne (show 2 ≠ 15 by decide), h.1, nI_1, he]
      refine ⟨_, rfl, ⟨?_, fun i p hp => ?_⟩, (((Fr.rf _ σ).F (by decide)).F (by decide)).G (by decide)⟩
      · rw [sG_1, sF_eq, List.length_append]; rfl
      · rw [getE_app] at hp
        rw [sG_1, sG_2, sF_ne (show 15 ≠ 2 by decide), sF_1, if_pos rfl, if_pos rfl]
        by_cases hi : i = P.length
        · rw [if_pos hi] at hp
          cases hp
          rw [if_pos hi, if_pos hi]
          exact ⟨rfl, rfl⟩
        · rw [if_neg hi] at hp
          rw [if_neg hi, if_neg hi]
          exact h.2 i p hp
    · right
      refine ⟨fun z => z.elim hc hl, ?_⟩
      rw [if_neg (show ¬ nI P.length < 12 from fun z => hl ((nLt (b := 12) (by omega) (by omega)).mp z))]
theorem WP.erase {P : Pl} (W : WP P) (n : Nat) : WP (P.eraseIdx n) := by
  obtain ⟨h1, h2, h3⟩ := W
  have hs := List.eraseIdx_sublist P n
  exact ⟨Nat.le_trans hs.length_le h1, fun p hp => h2 p (hs.subset hp), h3.sublist (hs.map _)⟩
theorem shf {α : Type} {f g f' : Nat → α} {n i : Nat} (hn : n ≤ i) (h : ∀ j, g j = f (if n ≤ j ∧ j < i then j + 1 else j)) (h' : ∀ j, f' j = if j = i then g (i + 1) else g j) : ∀ j, f' j = f (if n ≤ j ∧ j < i + 1 then j + 1 else j) := fun j => by
  rw [h' j]
  by_cases hj : j = i
  · rw [if_pos hj, h, if_neg (by omega), if_pos (by omega), hj]
  · rw [if_neg hj, h]
    by_cases hc : n ≤ j ∧ j < i
    · rw [if_pos hc, if_pos (by omega)]
    · rw [if_neg hc, if_neg (by omega)]
theorem remove_ok (N : Nat) (hN : 512 < N) {σ : Wd} {P : Pl} (h : CPl σ P) (hP : P.length ≤ 12) {n : Nat} (hn : n < P.length) : ∃ τ, f_X3_remove N (nI n) σ = some τ ∧ CPl τ (P.eraseIdx n) ∧ Fr [2, 15, 16] σ τ := by
  unfold f_X3_remove
  dsimp only
  rw [h.1, show nI P.length - 1 = nI (P.length - 1) from pk_sub (b := 1) (by omega)]
  obtain ⟨τ, ⟨-, F, h22, q1, q2⟩, e⟩ := lp_up (g := fun fu i s => f_X3_remove_L12 N (f_X3_remove_J54 N) fu (nI i) s) (E := fun s => some s) (P := fun i τ => n ≤ i ∧ Fr [2, 15, 16] σ τ ∧ τ.1 2 2 = nI (P.length - 1) ∧ (∀ j, τ.1 15 j = σ.1 15 (if n ≤ j ∧ j < i then j + 1 else j)) ∧ (∀ j, τ.2 16 j = σ.2 16 (if n ≤ j ∧ j < i then j + 1 else j))) (m := P.length - 1) (fun fu i τ hi ⟨hni, F, h22, q1, q2⟩ => by
      refine ⟨sG (sF τ 15 i (τ.1 15 (i + 1))) 16 i (τ.2 16 (i + 1)), ⟨by omega, (F.F (by decide)).G (by decide), by rw [sG_1, sF_ne (by decide)]; exact h22, shf hni q1 (fun j => by rw [sG_1, sF_1, if_pos rfl]), shf hni q2 (fun j => by rw [sG_2, if_pos rfl]; rfl)⟩, ?_⟩
      · rw [f_X3_remove_L12]
        rw [h22, if_neg (fun z => by have := (nLe (by omega) (by omega)).mp z; omega), nI_1, xld_n (by omega) (by omega), obind, xst_n (by omega) (by omega), obind, xldL_n (by omega) (by omega), obind, xstL_n (by omega) (by omega), obind]; rfl) (fun fu τ ⟨_, F, h22, q1, q2⟩ => by
      rw [f_X3_remove_L12]
      rw [h22, if_pos ((nLe (by omega) (by omega)).mpr (Nat.le_refl _))]; rfl) (P.length - 1 - n) N n (sF σ 2 2 (nI (P.length - 1))) (by omega) (by omega) ⟨Nat.le_refl _, (Fr.rf _ σ).F (by decide), sF_eq, fun j => by rw [if_neg (by omega), sF_ne (by decide)], fun j => by rw [if_neg (by omega)]; rfl⟩
  refine ⟨τ, e, ⟨?_, fun i p hp => ?_⟩, F⟩
  · rw [h22, List.length_eraseIdx, if_pos hn]
  · rw [List.getElem?_eraseIdx] at hp
    rw [q1, q2]
    have hlt : i < P.length - 1 := by
      by_cases hc : i < n
      · omega
      · rw [if_neg hc] at hp
        have := (List.getElem?_eq_some_iff.mp hp).1
        omega
    by_cases hc : i < n
    · rw [if_pos hc] at hp
      rw [if_neg (by omega)]
      exact h.2 i p hp
    · rw [if_neg hc] at hp
      rw [if_pos (by omega)]
      exact h.2 (i + 1) p hp
/-- how many plans have these blocks; how many blocks in all -/
def withP (P : Pl) (bs : Blk) : Nat := ctb (fun i => decide ((P[i]?).map Prod.snd = some bs)) P.length
theorem amountWith_ok (N : Nat) (hN : 512 < N) {σ : Wd} {P : Pl} (h : CPl σ P) (W : WP P) {bs : Blk} (V : VB bs) : f_X3_amountWith N (lN (bcode bs)) σ = some (nI (withP P bs), σ) := by
  have hP := W.1
  unfold f_X3_amountWith withP
  generalize hQ : (fun i : Nat => decide ((P[i]?).map Prod.snd = some bs)) = Q
  obtain ⟨c, rfl, e⟩ := lp_up (g := fun fu i c => f_X3_amountWith_L5 N (f_X3_amountWith_J35 N) fu (lN (bcode bs)) c (nI i) σ) (E := fun c => f_X3_amountWith_J35 N c σ) (P := fun i c => c = nI (ctb Q i)) (m := P.length) (fun fu i c hi hc => by
      subst hc
      have hp : P[i]? = some P[i] := List.getElem?_eq_getElem hi
      have hq : Q i = true ↔ P[i].2 = bs := by
        rw [← hQ]
        show decide _ = true ↔ _
        rw [decide_eq_true_eq, hp]
        exact ⟨fun z => Option.some.inj z, fun z => by rw [← z]; rfl⟩
      refine ⟨nI (ctb Q (i + 1)), rfl, ?_⟩
      rw [f_X3_amountWith_L5]
      rw [h.1, if_neg (fun z => by have := (nLe (by omega) (by omega)).mp z; omega), xldL_n (by omega) (by omega), obind, (h.2 i _ hp).2, nI_1, nI_1, ctb]
      by_cases hc : Q i = true
      · rw [if_pos ((lgB (W.at hp).2.1 V).mpr (hq.mp hc)), if_pos hc]
      · rw [if_neg (fun z => hc (hq.mpr ((lgB (W.at hp).2.1 V).mp z))), if_neg hc]; rfl) (fun fu c hc => by
      rw [f_X3_amountWith_L5]
      rw [h.1, if_pos ((nLe (by omega) (by omega)).mpr (Nat.le_refl _))]) P.length N 0 0 (by omega) (by omega) rfl
  exact e
def smf (f : Nat → Nat) : Nat → Nat
  | 0 => 0
  | i + 1 => smf f i + f i
theorem smf_le {f : Nat → Nat} {c : Nat} : ∀ i, (∀ j, j < i → f j ≤ c) → smf f i ≤ c * i
  | 0, _ => Nat.zero_le _
  | i + 1, h => by
    have h1 := smf_le i (fun j hj => h j (by omega))
    have h2 := h i (by omega)
    unfold smf
    rw [Nat.mul_succ]; omega
def lenP (P : Pl) (i : Nat) : Nat := match P[i]? with
  | some p => p.2.length
  | none => 0
theorem amountOf_ok (N : Nat) (hN : 512 < N) {σ : Wd} {P : Pl} (h : CPl σ P) (W : WP P) : f_X3_amountOfBlocks N σ = some (nI (smf (lenP P) P.length), σ) := by
  have hP := W.1
  unfold f_X3_amountOfBlocks
  obtain ⟨c, rfl, e⟩ := lp_up (g := fun fu i c => f_X3_amountOfBlocks_L4 N (f_X3_amountOfBlocks_J30 N) fu c (nI i) σ) (E := fun c => f_X3_amountOfBlocks_J30 N c σ) (P := fun i c => c = nI (smf (lenP P) i)) (m := P.length) (fun fu i c hi hc => by
      subst hc
      have hp : P[i]? = some P[i] := List.getElem?_eq_getElem hi
      refine ⟨nI (smf (lenP P) (i + 1)), rfl, ?_⟩
      rw [f_X3_amountOfBlocks_L4]
      rw [h.1, if_neg (fun z => by have := (nLe (by omega) (by omega)).mp z; omega), xldL_n (by omega) (by omega), obind, (h.2 i _ hp).2, amount_ok N (by omega) (W.at hp).2.1, obind]
      dsimp only
      rw [nI_add, nI_1, smf]
      unfold lenP
      rw [hp]) (fun fu c hc => by
      rw [f_X3_amountOfBlocks_L4]
      rw [h.1, if_pos ((nLe (by omega) (by omega)).mpr (Nat.le_refl _))]) P.length N 0 0 (by omega) (by omega) rfl
  exact e
/-! What is known. -/
def WK (K : List Blk) : Prop := K.length ≤ 20 ∧ (∀ b, b ∈ K → VB b ∧ b ≠ []) ∧ K.Nodup
def CKn (σ : Wd) (K : List Blk) : Prop := σ.1 3 1 = nI K.length ∧ ∀ i b, K[i]? = some b → σ.2 17 i = lN (bcode b)
theorem CKn.fr {σ τ : Wd} {ks : List Nat} {K : List Blk} (h : CKn σ K) (F : Fr ks σ τ) (h3 : 3 ∉ ks) (h17 : 17 ∉ ks) : CKn τ K :=
  ⟨by rw [F.i h3]; exact h.1, fun i p hp => by rw [F.l h17]; exact h.2 i p hp⟩
theorem CKn.nil {σ : Wd} (h : σ.1 3 1 = 0) : CKn σ [] := ⟨h, fun i b hb => by simp at hb⟩
def kix (K : List Blk) (bs : Blk) : Nat := fiN (fun i => decide (K[i]? = some bs)) K.length
theorem kix_le (K : List Blk) (bs : Blk) : kix K bs ≤ K.length := (fiN_sp _ _).1
theorem kix_y {K : List Blk} {bs : Blk} (h : kix K bs < K.length) : K[kix K bs]? = some bs := of_decide_eq_true ((fiN_sp (fun i => decide (K[i]? = some bs)) K.length).2.2 h)
theorem kix_n {K : List Blk} {bs : Blk} {i : Nat} (h : i < kix K bs) : K[i]? ≠ some bs := of_decide_eq_false ((fiN_sp (fun i => decide (K[i]? = some bs)) K.length).2.1 i h)
theorem placeOf_ok (N : Nat) (hN : 512 < N) {σ : Wd} {K : List Blk} (h : CKn σ K) (W : WK K) {bs : Blk} (V : VB bs) : f_X1_placeOf N (lN (bcode bs)) σ = some (nI (kix K bs), σ) := by
  have hK := W.1
  unfold f_X1_placeOf
  obtain ⟨j, -, j2, j3, j4, j5⟩ := lp_find (g := fun fu i => f_X1_placeOf_L2 N (f_X1_placeOf_J27 N) fu (lN (bcode bs)) (nI i) σ) (E := fun i => f_X1_placeOf_J27 N (nI i) σ) (Q := fun i => K[i]? = some bs) (m := K.length) (fun fu i hi hq => by
      have hp : K[i]? = some K[i] := List.getElem?_eq_getElem hi
      rw [f_X1_placeOf_L2]
      rw [h.1, if_neg (fun z => by have := (nLe (by omega) (by omega)).mp z; omega), xldL_n (by omega) (by omega), obind, h.2 i _ hp, if_neg (fun z => hq (by rw [hp, (lgB (W.2.1 _ (List.mem_of_getElem? hp)).1 V).mp z])), nI_1]) (fun fu i hi hq => by
      rw [f_X1_placeOf_L2]
      rw [h.1, if_neg (fun z => by have := (nLe (by omega) (by omega)).mp z; omega), xldL_n (by omega) (by omega), obind, h.2 i _ hq, if_pos ((lgB V V).mpr rfl)]) (fun fu => by
      rw [f_X1_placeOf_L2]
      rw [h.1, if_pos ((nLe (by omega) (by omega)).mpr (Nat.le_refl _))]) K.length N 0 (by omega) (by omega)
  have hj : kix K bs = j := fiN_eq j2 (fun k hk => decide_eq_false (j3 k (Nat.zero_le _) hk)) (fun hk => decide_eq_true (j4 hk))
  rw [hj]
  exact j5
theorem holds_ok (N : Nat) (hN : 512 < N) {σ : Wd} {K : List Blk} (h : CKn σ K) (W : WK K) {bs : Blk} (V : VB bs) : f_X1_holds N (lN (bcode bs)) σ = some (if kix K bs < K.length then 1 else 0, σ) := by
  have hK := W.1
  have hle := kix_le K bs
  unfold f_X1_holds
  rw [placeOf_ok N hN h W V, obind]
  dsimp only
  rw [h.1]
  by_cases hc : kix K bs < K.length
  · rw [if_neg (fun z => by have := (nLe (by omega) (by omega)).mp z; omega), if_pos hc]
  · rw [if_pos ((nLe (by omega) (by omega)).mpr (by omega)), if_neg hc]
def aix (K : List Blk) (bs : Blk) : Nat := if kix K bs = K.length ∧ K.length = 20 then 0 else kix K bs
def askK (K : List Blk) (bs : Blk) : List Blk := K.eraseIdx (aix K bs) ++ [bs]
theorem ask_loop (N : Nat) (hN : 512 < N) {σ : Wd} {m p : Nat} (h31 : σ.1 3 1 = nI m) (h1 : 1 ≤ m) (hm : m ≤ 20) (hp : p < m) (x : Int64) : ∃ τ, f_X1_ask_L49 N (f_X1_ask_J82 N) N x (nI p) σ = some τ ∧ Fr [17] σ τ ∧ ∀ j, τ.2 17 j = if j = m - 1 then x else σ.2 17 (if p ≤ j ∧ j < m - 1 then j + 1 else j) := by
  obtain ⟨τ, ⟨-, F, q⟩, e⟩ := lp_up (g := fun fu i s => f_X1_ask_L49 N (f_X1_ask_J82 N) fu x (nI i) s) (E := fun s => f_X1_ask_J82 N x s) (P := fun i τ => p ≤ i ∧ Fr [17] σ τ ∧ ∀ j, τ.2 17 j = σ.2 17 (if p ≤ j ∧ j < i then j + 1 else j)) (m := m - 1) (fun fu i τ hi ⟨hni, F, q⟩ => by
      refine ⟨sG τ 17 i (τ.2 17 (i + 1)), ⟨by omega, F.G (by decide), shf hni q (fun j => by rw [sG_2, if_pos rfl])⟩, ?_⟩
      rw [f_X1_ask_L49]
      rw [F.i (by decide), h31, show nI m - 1 = nI (m - 1) from pk_sub (b := 1) h1, if_neg (fun z => by have := (nLe (by omega) (by omega)).mp z; omega), nI_1, xldL_n (by omega) (by omega), obind, xstL_n (by omega) (by omega), obind]) (fun fu τ ⟨_, F, q⟩ => by
      rw [f_X1_ask_L49]
      rw [F.i (by decide), h31, show nI m - 1 = nI (m - 1) from pk_sub (b := 1) h1, if_pos ((nLe (by omega) (by omega)).mpr (Nat.le_refl _))]) (m - 1 - p) N p σ (by omega) (by omega) ⟨Nat.le_refl _, Fr.rf _ σ, fun j => by rw [if_neg (by omega)]⟩
  unfold f_X1_ask_J82 at e
  rw [F.i (by decide), h31, show nI m - 1 = nI (m - 1) from pk_sub (b := 1) h1, xstL_n (by omega) (by omega), obind] at e
  refine ⟨_, e, F.G (by decide), fun j => ?_⟩
  rw [sG_2, if_pos rfl]
  by_cases hj : j = m - 1
  · rw [if_pos hj, if_pos hj]
  · rw [if_neg hj, if_neg hj, q]
theorem askK_of {τ σ : Wd} {K : List Blk} (h : CKn σ K) {m p : Nat} {bs : Blk} (hm : (K.eraseIdx p).length + 1 = m) (hl : τ.1 3 1 = nI m) (hq : ∀ j, τ.2 17 j = if j = m - 1 then lN (bcode bs) else σ.2 17 (if p ≤ j ∧ j < m - 1 then j + 1 else j)) : CKn τ (K.eraseIdx p ++ [bs]) := by
  refine ⟨by rw [hl, List.length_append, ← hm]; rfl, fun i b hb => ?_⟩
  rw [getE_app] at hb
  rw [hq]
  by_cases hi : i = (K.eraseIdx p).length
  · rw [if_pos hi] at hb
    cases hb
    rw [if_pos (by omega)]
  · rw [if_neg hi] at hb
    have hlt := (List.getElem?_eq_some_iff.mp hb).1
    rw [if_neg (by omega)]
    rw [List.getElem?_eraseIdx] at hb
    by_cases hc : i < p
    · rw [if_pos hc] at hb
      rw [if_neg (by omega)]; exact h.2 i b hb
    · rw [if_neg hc] at hb
      rw [if_pos (by omega)]; exact h.2 (i + 1) b hb
theorem ask_ok (N : Nat) (hN : 512 < N) {σ : Wd} {K : List Blk} (h : CKn σ K) (W : WK K) {bs : Blk} (V : VB bs) : ∃ τ, f_X1_ask N (lN (bcode bs)) σ = some τ ∧ CKn τ (askK K bs) ∧ Fr [3, 17] σ τ := by
  have hK := W.1
  have hle := kix_le K bs
  unfold f_X1_ask askK aix
  rw [placeOf_ok N hN h W V, obind]
  dsimp only
  rw [h.1]
  by_cases hc : kix K bs < K.length
  · rw [if_neg (neN (by omega) (by omega) (by omega))]
    unfold f_X1_ask_J36
    rw [h.1, if_neg (neN (by omega) (by omega) (by omega)), if_neg (fun z => by omega)]
    obtain ⟨τ, e, F, q⟩ := ask_loop N hN h.1 (by omega) hK hc (lN (bcode bs))
    have hm : (K.eraseIdx (kix K bs)).length + 1 = K.length := by rw [List.length_eraseIdx, if_pos hc]; omega
    exact ⟨τ, e, askK_of h hm (by rw [F.i (by decide)]; exact h.1) q, F.mo (by decide)⟩
  · have he : kix K bs = K.length := by omega
    rw [he, if_pos rfl]
    by_cases h20 : K.length = 20
    · rw [if_pos (show (20 : Int32) ≤ nI K.length from (nLe (a := 20) (by omega) (by omega)).mpr (by omega)), if_pos ⟨rfl, h20⟩]
      unfold f_X1_ask_J36
      rw [h.1, if_pos rfl]
      obtain ⟨τ, e, F, q⟩ := ask_loop N hN h.1 (by omega) hK (p := 0) (by omega) (lN (bcode bs))
      have hm : (K.eraseIdx 0).length + 1 = K.length := by rw [List.length_eraseIdx, if_pos (by omega)]; omega
      exact ⟨τ, e, askK_of h hm (by rw [F.i (by decide)]; exact h.1) q, F.mo (by decide)⟩
    · rw [if_neg (show ¬ (20 : Int32) ≤ nI K.length from fun z => by have := (nLe (a := 20) (by omega) (by omega)).mp z; omega), if_neg (fun z => h20 z.2), nI_1]
      obtain ⟨τ, e, F, q⟩ := ask_loop N hN (σ := sF σ 3 1 (nI (K.length + 1))) (m := K.length + 1) sF_eq (by omega) (by omega) (p := K.length) (by omega) (lN (bcode bs))
      have hm : (K.eraseIdx K.length).length + 1 = K.length + 1 := by rw [List.length_eraseIdx, if_neg (by omega)]
      exact ⟨τ, e, askK_of h hm (by rw [F.i (by decide), sF_eq]) q, (((Fr.rf [3, 17] σ).F (by decide)).tr (F.mo (by decide)))⟩
theorem WK.ask {K : List Blk} (W : WK K) {bs : Blk} (V : VB bs) (hb : bs ≠ []) : WK (askK K bs) := by
  obtain ⟨h1, h2, h3⟩ := W
  have hle := kix_le K bs
  unfold askK
  have hs := List.eraseIdx_sublist K (aix K bs)
  have hlen : (K.eraseIdx (aix K bs)).length ≤ 19 := by
    rw [List.length_eraseIdx]
    unfold aix
    by_cases hc : kix K bs = K.length ∧ K.length = 20
    · rw [if_pos hc, if_pos (by omega)]; omega
    · rw [if_neg hc]
      by_cases hd : kix K bs < K.length
      · rw [if_pos hd]; omega
      · rw [if_neg hd]; omega
  refine ⟨by rw [List.length_append]; exact Nat.succ_le_succ hlen, fun b hb2 => ?_, List.nodup_append.mpr ⟨h3.sublist hs, by simp, fun x hx y hy => ?_⟩⟩
  · rcases List.mem_append.mp hb2 with q | q
    · exact h2 b (hs.subset q)
    · rw [List.mem_singleton.mp q]; exact ⟨V, hb⟩
  · have hy2 : y = bs := by simpa using hy
    rw [hy2]
    intro e
    subst e
    obtain ⟨i, hi, e2⟩ := List.getElem_of_mem hx
    have hi2 : (K.eraseIdx (aix K x))[i]? = some x := by rw [List.getElem?_eq_getElem hi, e2]
    rw [List.getElem?_eraseIdx] at hi2
    have hne : aix K x = 0 ∧ kix K x = K.length ∨ aix K x = kix K x := by
      unfold aix
      by_cases hc : kix K x = K.length ∧ K.length = 20
      · rw [if_pos hc]; exact Or.inl ⟨rfl, hc.1⟩
      · rw [if_neg hc]; exact Or.inr rfl
    have one : ∀ a b, K[a]? = some x → K[b]? = some x → a = b := fun a b ha hb => by
      have ha1 := (List.getElem?_eq_some_iff.mp ha).1
      exact (List.getElem?_inj ha1 h3).mp (ha.trans hb.symm)
    rcases hne with ⟨z1, z2⟩ | z
    · rw [z1, if_neg (by omega)] at hi2
      have := (List.getElem?_eq_some_iff.mp hi2).1
      exact kix_n (by omega) hi2
    · rw [z] at hi2
      by_cases hc : i < kix K x
      · rw [if_pos hc] at hi2
        exact kix_n hc hi2
      · rw [if_neg hc] at hi2
        have hlt := (List.getElem?_eq_some_iff.mp hi2).1
        have := one _ _ hi2 (kix_y (by omega))
        omega
end
