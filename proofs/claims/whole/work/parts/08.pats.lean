-- places of locals and stacks by pattern
def lookv : List (Nat × Value) → Nat → Value
  | [], _ => .null
  | (k, a) :: t, n => cond (Nat.beq k n) a (lookv t n)
def mkp : Nat → Nat → List (Nat × Value) → List Value
  | _, 0, _ => []
  | i, n + 1, l => lookv l i :: mkp (i + 1) n l
def allP : List (Nat × Value) → List Value → Prop
  | [], _ => True
  | z :: l, vs => vs[z.1]? = some z.2 ∧ allP l vs
theorem lookv_mem : ∀ (l : List (Nat × Value)) (n : Nat) (v : Value), lookv l n = v → v ≠ .null → (n, v) ∈ l
  | [], n, v, h, hn => absurd h.symm hn
  | (k, a) :: t, n, v, h, hn => by
    simp only [lookv] at h
    cases hb : Nat.beq k n with
    | true => rw [hb, cond_true] at h; rw [← Nat.eq_of_beq_eq_true hb, h]; exact List.mem_cons_self
    | false => rw [hb, cond_false] at h; exact List.mem_cons_of_mem _ (lookv_mem t n v h hn)
theorem mkp_get : ∀ (n i j : Nat) (l : List (Nat × Value)) (v : Value), (mkp i n l)[j]? = some v → v ≠ .null → (i + j, v) ∈ l
  | 0, i, j, l, v, h, hn => by simp [mkp] at h
  | n + 1, i, 0, l, v, h, hn => by
    simp only [mkp, List.getElem?_cons_zero, Option.some.injEq] at h
    exact lookv_mem l i v h hn
  | n + 1, i, j + 1, l, v, h, hn => by
    simp only [mkp, List.getElem?_cons_succ] at h
    have := mkp_get n (i + 1) j l v h hn
    rw [show i + (j + 1) = i + 1 + j by omega]
    exact this
theorem allP_mem : ∀ {l : List (Nat × Value)} {vs : List Value} {z : Nat × Value}, allP l vs → z ∈ l → vs[z.1]? = some z.2
  | [], vs, z, h, hz => by cases hz
  | a :: l, vs, z, h, hz => by
    rcases List.mem_cons.mp hz with rfl | hz
    · exact h.1
    · exact allP_mem h.2 hz
section PATS
variable {β : Type}
def kI (i : Nat) (vs : List Value) (k : Int32 → Option β) : Option β := match vs[i]? with
  | some (.int x) => k x
  | _ => none
def kJ (i : Nat) (vs : List Value) (k : Int64 → Option β) : Option β := match vs[i]? with
  | some (.long x) => k x
  | _ => none
def kA (i c : Nat) (vs : List Value) (k : Option β) : Option β := match vs[i]? with
  | some (.ref x) => cond (Nat.beq x c) k none
  | _ => none
def kS0 (st : List Value) (k : Option β) : Option β := match st with
  | [] => k
  | _ => none
def kSI (st : List Value) (k : Int32 → List Value → Option β) : Option β := match st with
  | .int x :: r => k x r
  | _ => none
def kSJ (st : List Value) (k : Int64 → List Value → Option β) : Option β := match st with
  | .long x :: r => k x r
  | _ => none
def kSA (c : Nat) (st : List Value) (k : List Value → Option β) : Option β := match st with
  | .ref x :: r => cond (Nat.beq x c) (k r) none
  | _ => none
theorem kS0_s {st : List Value} {k : Option β} {r : β} (h : kS0 st k = some r) : st = [] ∧ k = some r := by
  unfold kS0 at h; split at h
  · exact ⟨rfl, h⟩
  · cases h
theorem kSI_s {st : List Value} {k : Int32 → List Value → Option β} {r : β} (h : kSI st k = some r) : ∃ x rs, st = .int x :: rs ∧ k x rs = some r := by
  unfold kSI at h; split at h
  · exact ⟨_, _, rfl, h⟩
  · cases h
theorem kSJ_s {st : List Value} {k : Int64 → List Value → Option β} {r : β} (h : kSJ st k = some r) : ∃ x rs, st = .long x :: rs ∧ k x rs = some r := by
  unfold kSJ at h; split at h
  · exact ⟨_, _, rfl, h⟩
  · cases h
theorem kSA_s {c : Nat} {st : List Value} {k : List Value → Option β} {r : β} (h : kSA c st k = some r) : ∃ rs, st = .ref c :: rs ∧ k rs = some r := by
  unfold kSA at h; split at h
  · rename_i x rs
    cases hb : Nat.beq x c with
    | true => rw [hb] at h; have := Nat.eq_of_beq_eq_true hb; subst this; exact ⟨_, rfl, h⟩
    | false => rw [hb] at h; cases h
  · cases h
variable {cc : ByteArray} {own : String} {nL lvl : Nat} {sc : Scr} {RI : Int32 → Wd → Option β} {RL : Int64 → Wd → Option β} {RV : Wd → Option β} {o : Option β} {pc : Nat} {vs st : List Value} {σ : Wd}
theorem GO.pat (l : List (Nat × Value)) (hl : allP l vs) (h : GO cc own nL lvl sc RI RL RV o pc (mkp 0 nL l) st σ) : GO cc own nL lvl sc RI RL RV o pc vs st σ := by
  intro p l2 e R s m args below meth c cells slots Q D q cy A r0 C h1 h2 h3 ho H locs ls hP hS hL
  refine h p l2 e R s m args below meth c cells slots Q D q cy A r0 C h1 h2 h3 ho H locs ls hP hS ⟨hL.1, hL.2.1, fun j w hj hn => ?_⟩
  have h9 := mkp_get nL 0 j l w hj hn
  rw [Nat.zero_add] at h9
  exact hL.2.2 j w (allP_mem hl h9) hn
theorem go_kI {i : Nat} {k : Int32 → Option β} (h : ∀ x, vs[i]? = some (.int x) → GO cc own nL lvl sc RI RL RV (k x) pc vs st σ) : GO cc own nL lvl sc RI RL RV (kI i vs k) pc vs st σ := by
  unfold kI
  split
  · rename_i x hx; exact h x hx
  · exact GO.none
theorem go_kJ {i : Nat} {k : Int64 → Option β} (h : ∀ x, vs[i]? = some (.long x) → GO cc own nL lvl sc RI RL RV (k x) pc vs st σ) : GO cc own nL lvl sc RI RL RV (kJ i vs k) pc vs st σ := by
  unfold kJ
  split
  · rename_i x hx; exact h x hx
  · exact GO.none
theorem go_kA {i a : Nat} {k : Option β} (h : vs[i]? = some (.ref a) → GO cc own nL lvl sc RI RL RV k pc vs st σ) : GO cc own nL lvl sc RI RL RV (kA i a vs k) pc vs st σ := by
  unfold kA
  split
  · rename_i x hx
    refine GO.cnd (fun hb => ?_)
    have := Nat.eq_of_beq_eq_true hb
    subst this
    exact h hx
  · exact GO.none
theorem go_kS0 {k : Option β} (h : GO cc own nL lvl sc RI RL RV k pc vs [] σ) : GO cc own nL lvl sc RI RL RV (kS0 st k) pc vs st σ := by
  unfold kS0
  split
  · exact h
  · exact GO.none
end PATS
section PATS2
variable {β : Type}
def kSE (c : Nat) (st : List Value) (k : List Value → Option β) (e : Option β) : Option β := match st with
  | .ref x :: r => cond (Nat.beq x c) (k r) e
  | _ => none
def kAE (i c : Nat) (vs : List Value) (k e : Option β) : Option β := match vs[i]? with
  | some (.ref x) => cond (Nat.beq x c) k e
  | _ => none
theorem kSE_s {c : Nat} {st : List Value} {k : List Value → Option β} {e : Option β} {r : β} (h : kSE c st k e = some r) : (∃ rs, st = .ref c :: rs ∧ k rs = some r) ∨ e = some r := by
  unfold kSE at h; split at h
  · rename_i x rs
    cases hb : Nat.beq x c with
    | true => rw [hb] at h; have := Nat.eq_of_beq_eq_true hb; subst this; exact Or.inl ⟨_, rfl, h⟩
    | false => rw [hb] at h; exact Or.inr h
  · cases h
def kSti (st : List Value) (k : Int32 → Option β) : Option β := match st with
  | [.int x] => k x
  | _ => none
def kStii (st : List Value) (k : Int32 → Int32 → Option β) : Option β := match st with
  | [.int y, .int x] => k x y
  | _ => none
def kStai (c : Nat) (st : List Value) (k : Int32 → Option β) : Option β := match st with
  | [.int y, .ref x] => cond (Nat.beq x c) (k y) none
  | _ => none
def kStaii (c : Nat) (st : List Value) (k : Int32 → Int32 → Option β) : Option β := match st with
  | [.int z, .int y, .ref x] => cond (Nat.beq x c) (k y z) none
  | _ => none
def kStaiii (c : Nat) (st : List Value) (k : Int32 → Int32 → Int32 → Option β) : Option β := match st with
  | [.int w, .int z, .int y, .ref x] => cond (Nat.beq x c) (k y z w) none
  | _ => none
def kStj (st : List Value) (k : Int64 → Option β) : Option β := match st with
  | [.long x] => k x
  | _ => none
def xsh (i : Int32) (k : Nat → Option β) : Option β := if i = 0 then k 9 else if i = 1 then k 10 else if i = 2 then k 11 else if i = 3 then k 12 else none
variable {cc : ByteArray} {own : String} {nL lvl : Nat} {sc : Scr} {RI : Int32 → Wd → Option β} {RL : Int64 → Wd → Option β} {RV : Wd → Option β} {o : Option β} {pc : Nat} {vs st : List Value} {σ : Wd}
theorem go_kSti {k : Int32 → Option β} (h : ∀ x, GO cc own nL lvl sc RI RL RV (k x) pc vs [.int x] σ) : GO cc own nL lvl sc RI RL RV (kSti st k) pc vs st σ := by
  unfold kSti; split
  · exact h _
  · exact GO.none
theorem go_kStii {k : Int32 → Int32 → Option β} (h : ∀ x y, GO cc own nL lvl sc RI RL RV (k x y) pc vs [.int y, .int x] σ) : GO cc own nL lvl sc RI RL RV (kStii st k) pc vs st σ := by
  unfold kStii; split
  · exact h _ _
  · exact GO.none
theorem go_kStai {c : Nat} {k : Int32 → Option β} (h : ∀ y, GO cc own nL lvl sc RI RL RV (k y) pc vs [.int y, .ref c] σ) : GO cc own nL lvl sc RI RL RV (kStai c st k) pc vs st σ := by
  unfold kStai; split
  · refine GO.cnd (fun hb => ?_)
    have := Nat.eq_of_beq_eq_true hb
    subst this
    exact h _
  · exact GO.none
theorem go_kStaii {c : Nat} {k : Int32 → Int32 → Option β} (h : ∀ y z, GO cc own nL lvl sc RI RL RV (k y z) pc vs [.int z, .int y, .ref c] σ) : GO cc own nL lvl sc RI RL RV (kStaii c st k) pc vs st σ := by
  unfold kStaii; split
  · refine GO.cnd (fun hb => ?_)
    have := Nat.eq_of_beq_eq_true hb
    subst this
    exact h _ _
  · exact GO.none
theorem go_kStaiii {c : Nat} {k : Int32 → Int32 → Int32 → Option β} (h : ∀ y z w, GO cc own nL lvl sc RI RL RV (k y z w) pc vs [.int w, .int z, .int y, .ref c] σ) : GO cc own nL lvl sc RI RL RV (kStaiii c st k) pc vs st σ := by
  unfold kStaiii; split
  · refine GO.cnd (fun hb => ?_)
    have := Nat.eq_of_beq_eq_true hb
    subst this
    exact h _ _ _
  · exact GO.none
theorem go_kStj {k : Int64 → Option β} (h : ∀ x, GO cc own nL lvl sc RI RL RV (k x) pc vs [.long x] σ) : GO cc own nL lvl sc RI RL RV (kStj st k) pc vs st σ := by
  unfold kStj; split
  · exact h _
  · exact GO.none
theorem go_kAE {i a : Nat} {k e : Option β} (h : vs[i]? = some (.ref a) → GO cc own nL lvl sc RI RL RV k pc vs st σ) (h2 : GO cc own nL lvl sc RI RL RV e pc vs st σ) : GO cc own nL lvl sc RI RL RV (kAE i a vs k e) pc vs st σ := by
  unfold kAE; split
  · rename_i x hx
    cases hb : Nat.beq x a with
    | true => have := Nat.eq_of_beq_eq_true hb; subst this; exact h hx
    | false => exact h2
  · exact GO.none
end PATS2
