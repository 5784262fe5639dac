-- one instruction, and runs of them
def fnd {α : Type} : List (Nat × α) → Nat → Option α
  | [], _ => none
  | (k, a) :: t, n => cond (Nat.beq k n) (some a) (fnd t n)
theorem fnd_mem {α : Type} : ∀ (t : List (Nat × α)) (n : Nat) (a : α), fnd t n = some a → (n, a) ∈ t
  | [], n, a, h => by cases h
  | (k, b) :: t, n, a, h => by
    simp only [fnd] at h
    cases hb : Nat.beq k n with
    | true =>
      rw [hb] at h
      have h1 : b = a := Option.some.inj h
      rw [← Nat.eq_of_beq_eq_true hb, h1]
      exact List.mem_cons_self
    | false => rw [hb] at h; exact List.mem_cons_of_mem _ (fnd_mem t n a h)
abbrev Ent : Type := Instr × Nat × List Nat
abbrev FTE : Type := Nat × Nat × Nat
abbrev Cal : Type := Nat × Nat × ((List Value → Wd → Option (Int32 × Wd)) ⊕ (List Value → Wd → Option (Int64 × Wd)) ⊕ (List Value → Wd → Option Wd))
abbrev Scr : Type := Nat × (Nat → Int32)
abbrev PK (β : Type) : Type := Nat → List Value → List Value → Wd → Option β
def arrn (k t : Nat) : Option Nat := match SH[k]? with
  | some (.inr (t', n)) => cond (Nat.beq t' t) (some n) none
  | _ => none
def objf (k ci : Nat) : Option (List Nat) := match SH[k]? with
  | some (.inl (c, fds)) => cond (Nat.beq c ci) (some fds) none
  | _ => none
theorem arrn_sh {k t n : Nat} (h : arrn k t = some n) : SH[k]? = some (.inr (t, n)) := by
  unfold arrn at h
  split at h
  · rename_i t' n' hs
    cases hb : Nat.beq t' t with
    | true => rw [hb] at h; rw [hs, Nat.eq_of_beq_eq_true hb, Option.some.inj h]
    | false => rw [hb] at h; cases h
  · cases h
theorem objf_sh {k ci : Nat} {fds : List Nat} (h : objf k ci = some fds) : SH[k]? = some (.inl (ci, fds)) := by
  unfold objf at h
  split at h
  · rename_i t' n' hs
    cases hb : Nat.beq t' ci with
    | true => rw [hb] at h; rw [hs, Nat.eq_of_beq_eq_true hb, Option.some.inj h]
    | false => rw [hb] at h; cases h
  · cases h
def xld (σ : Wd) (k n : Nat) (i : Int32) : Option Int32 := if i < 0 ∨ n ≤ i.toNatClampNeg then none else some (σ.1 k i.toNatClampNeg)
def xldL (σ : Wd) (k n : Nat) (i : Int32) : Option Int64 := if i < 0 ∨ n ≤ i.toNatClampNeg then none else some (σ.2 k i.toNatClampNeg)
def xsc (sc : Scr) (i : Int32) : Option Int32 := if i < 0 ∨ sc.1 - 1 ≤ i.toNatClampNeg then none else some (sc.2 i.toNatClampNeg)
def xst (σ : Wd) (k n : Nat) (i x : Int32) : Option Wd := if i < 0 ∨ n ≤ i.toNatClampNeg then none else some (sF σ k i.toNatClampNeg x)
def xstL (σ : Wd) (k n : Nat) (i : Int32) (x : Int64) : Option Wd := if i < 0 ∨ n ≤ i.toNatClampNeg then none else some (sG σ k i.toNatClampNeg x)
def xstZ (σ : Wd) (k n : Nat) (i x : Int32) : Option Wd := if x = 0 ∨ x = 1 then xst σ k n i x else none
theorem xld_s {σ : Wd} {k n : Nat} {i v : Int32} (h : xld σ k n i = some v) : vp_in i n ∧ v = σ.1 k i.toNatClampNeg := by
  unfold xld at h
  by_cases c : i < 0 ∨ n ≤ i.toNatClampNeg
  · rw [if_pos c] at h; cases h
  · rw [if_neg c] at h; exact ⟨c, (Option.some.inj h).symm⟩
theorem xldL_s {σ : Wd} {k n : Nat} {i : Int32} {v : Int64} (h : xldL σ k n i = some v) : vp_in i n ∧ v = σ.2 k i.toNatClampNeg := by
  unfold xldL at h
  by_cases c : i < 0 ∨ n ≤ i.toNatClampNeg
  · rw [if_pos c] at h; cases h
  · rw [if_neg c] at h; exact ⟨c, (Option.some.inj h).symm⟩
theorem xsc_s {sc : Scr} {i v : Int32} (h : xsc sc i = some v) : vp_in i (sc.1 - 1) ∧ v = sc.2 i.toNatClampNeg := by
  unfold xsc at h
  by_cases c : i < 0 ∨ sc.1 - 1 ≤ i.toNatClampNeg
  · rw [if_pos c] at h; cases h
  · rw [if_neg c] at h; exact ⟨c, (Option.some.inj h).symm⟩
theorem xst_s {σ τ : Wd} {k n : Nat} {i x : Int32} (h : xst σ k n i x = some τ) : vp_in i n ∧ τ = sF σ k i.toNatClampNeg x := by
  unfold xst at h
  by_cases c : i < 0 ∨ n ≤ i.toNatClampNeg
  · rw [if_pos c] at h; cases h
  · rw [if_neg c] at h; exact ⟨c, (Option.some.inj h).symm⟩
theorem xstL_s {σ τ : Wd} {k n : Nat} {i : Int32} {x : Int64} (h : xstL σ k n i x = some τ) : vp_in i n ∧ τ = sG σ k i.toNatClampNeg x := by
  unfold xstL at h
  by_cases c : i < 0 ∨ n ≤ i.toNatClampNeg
  · rw [if_pos c] at h; cases h
  · rw [if_neg c] at h; exact ⟨c, (Option.some.inj h).symm⟩
theorem xstZ_s {σ τ : Wd} {k n : Nat} {i x : Int32} (h : xstZ σ k n i x = some τ) : (x = 0 ∨ x = 1) ∧ vp_in i n ∧ τ = sF σ k i.toNatClampNeg x := by
  unfold xstZ at h
  by_cases c : x = 0 ∨ x = 1
  · rw [if_pos c] at h; exact ⟨c, xst_s h⟩
  · rw [if_neg c] at h; cases h
section POP
variable {β : Type}
def pI (st : List Value) (k : Int32 → List Value → Option β) : Option β := match st with
  | .int x :: r => k x r
  | _ => none
def pII (st : List Value) (k : Int32 → Int32 → List Value → Option β) : Option β := match st with
  | .int y :: .int x :: r => k x y r
  | _ => none
def pJ (st : List Value) (k : Int64 → List Value → Option β) : Option β := match st with
  | .long x :: r => k x r
  | _ => none
def pJJ (st : List Value) (k : Int64 → Int64 → List Value → Option β) : Option β := match st with
  | .long y :: .long x :: r => k x y r
  | _ => none
def pJI (st : List Value) (k : Int64 → Int32 → List Value → Option β) : Option β := match st with
  | .int y :: .long x :: r => k x y r
  | _ => none
def pA (st : List Value) (k : Nat → List Value → Option β) : Option β := match st with
  | .ref a :: r => k a r
  | _ => none
def pAI (st : List Value) (k : Nat → Int32 → List Value → Option β) : Option β := match st with
  | .int i :: .ref a :: r => k a i r
  | _ => none
def pAII (st : List Value) (k : Nat → Int32 → Int32 → List Value → Option β) : Option β := match st with
  | .int x :: .int i :: .ref a :: r => k a i x r
  | _ => none
def pAIJ (st : List Value) (k : Nat → Int32 → Int64 → List Value → Option β) : Option β := match st with
  | .long x :: .int i :: .ref a :: r => k a i x r
  | _ => none
def pVA (st : List Value) (k : Value → Nat → List Value → Option β) : Option β := match st with
  | v :: .ref a :: r => k v a r
  | _ => none
def pV (st : List Value) (k : Value → List Value → Option β) : Option β := match st with
  | v :: r => cond (cat2 v) none (k v r)
  | _ => none
def pVV (st : List Value) (k : Value → Value → List Value → Option β) : Option β := match st with
  | v :: w :: r => cond (cat2 v || cat2 w) none (k v w r)
  | _ => none
def oV (v : Option Value) (k : Value → Option β) : Option β := match v with
  | some v => k v
  | none => none
def vI (v : Value) (k : Int32 → Option β) : Option β := match v with
  | .int x => k x
  | _ => none
def vJ (v : Value) (k : Int64 → Option β) : Option β := match v with
  | .long x => k x
  | _ => none
def vA (v : Value) (k : Nat → Option β) : Option β := match v with
  | .ref x => k x
  | _ => none
def oN {α : Type} (v : Option α) (k : α → Option β) : Option β := match v with
  | some v => k v
  | none => none
def t1 (ts : List Nat) (k : Nat → Option β) : Option β := match ts with
  | t :: _ => k t
  | [] => none
theorem pI_s {st : List Value} {k : Int32 → List Value → Option β} {r : β} (h : pI st k = some r) : ∃ x rs, st = .int x :: rs ∧ k x rs = some r := by
  unfold pI at h; split at h
  · exact ⟨_, _, rfl, h⟩
  · cases h
theorem pII_s {st : List Value} {k : Int32 → Int32 → List Value → Option β} {r : β} (h : pII st k = some r) : ∃ x y rs, st = .int y :: .int x :: rs ∧ k x y rs = some r := by
  unfold pII at h; split at h
  · exact ⟨_, _, _, rfl, h⟩
  · cases h
theorem pJ_s {st : List Value} {k : Int64 → List Value → Option β} {r : β} (h : pJ st k = some r) : ∃ x rs, st = .long x :: rs ∧ k x rs = some r := by
  unfold pJ at h; split at h
  · exact ⟨_, _, rfl, h⟩
  · cases h
theorem pJJ_s {st : List Value} {k : Int64 → Int64 → List Value → Option β} {r : β} (h : pJJ st k = some r) : ∃ x y rs, st = .long y :: .long x :: rs ∧ k x y rs = some r := by
  unfold pJJ at h; split at h
  · exact ⟨_, _, _, rfl, h⟩
  · cases h
theorem pJI_s {st : List Value} {k : Int64 → Int32 → List Value → Option β} {r : β} (h : pJI st k = some r) : ∃ x y rs, st = .int y :: .long x :: rs ∧ k x y rs = some r := by
  unfold pJI at h; split at h
  · exact ⟨_, _, _, rfl, h⟩
  · cases h
theorem pA_s {st : List Value} {k : Nat → List Value → Option β} {r : β} (h : pA st k = some r) : ∃ a rs, st = .ref a :: rs ∧ k a rs = some r := by
  unfold pA at h; split at h
  · exact ⟨_, _, rfl, h⟩
  · cases h
theorem pAI_s {st : List Value} {k : Nat → Int32 → List Value → Option β} {r : β} (h : pAI st k = some r) : ∃ a i rs, st = .int i :: .ref a :: rs ∧ k a i rs = some r := by
  unfold pAI at h; split at h
  · exact ⟨_, _, _, rfl, h⟩
  · cases h
theorem pAII_s {st : List Value} {k : Nat → Int32 → Int32 → List Value → Option β} {r : β} (h : pAII st k = some r) : ∃ a i x rs, st = .int x :: .int i :: .ref a :: rs ∧ k a i x rs = some r := by
  unfold pAII at h; split at h
  · exact ⟨_, _, _, _, rfl, h⟩
  · cases h
theorem pAIJ_s {st : List Value} {k : Nat → Int32 → Int64 → List Value → Option β} {r : β} (h : pAIJ st k = some r) : ∃ a i x rs, st = .long x :: .int i :: .ref a :: rs ∧ k a i x rs = some r := by
  unfold pAIJ at h; split at h
  · exact ⟨_, _, _, _, rfl, h⟩
  · cases h
theorem pVA_s {st : List Value} {k : Value → Nat → List Value → Option β} {r : β} (h : pVA st k = some r) : ∃ v a rs, st = v :: .ref a :: rs ∧ k v a rs = some r := by
  unfold pVA at h; split at h
  · exact ⟨_, _, _, rfl, h⟩
  · cases h
theorem cat1_of {v : Value} (h : cat2 v = false) : v.category = 1 := by cases v <;> first | rfl | cases h
theorem pV_s {st : List Value} {k : Value → List Value → Option β} {r : β} (h : pV st k = some r) : ∃ v rs, st = v :: rs ∧ v.category = 1 ∧ k v rs = some r := by
  unfold pV at h; split at h
  · rename_i v rs
    cases hc : cat2 v with
    | true => rw [hc] at h; cases h
    | false => rw [hc] at h; exact ⟨_, _, rfl, cat1_of hc, h⟩
  · cases h
theorem pVV_s {st : List Value} {k : Value → Value → List Value → Option β} {r : β} (h : pVV st k = some r) : ∃ v w rs, st = v :: w :: rs ∧ v.category = 1 ∧ w.category = 1 ∧ k v w rs = some r := by
  unfold pVV at h; split at h
  · rename_i v w rs
    cases hc : cat2 v with
    | true => rw [hc] at h; cases h
    | false =>
      cases hd : cat2 w with
      | true => rw [hc, hd] at h; cases h
      | false => rw [hc, hd] at h; exact ⟨_, _, _, rfl, cat1_of hc, cat1_of hd, h⟩
  · cases h
theorem oV_s {v : Option Value} {k : Value → Option β} {r : β} (h : oV v k = some r) : ∃ w, v = some w ∧ k w = some r := by
  unfold oV at h; split at h
  · exact ⟨_, rfl, h⟩
  · cases h
theorem vI_s {v : Value} {k : Int32 → Option β} {r : β} (h : vI v k = some r) : ∃ x, v = .int x ∧ k x = some r := by
  unfold vI at h; split at h
  · exact ⟨_, rfl, h⟩
  · cases h
theorem vJ_s {v : Value} {k : Int64 → Option β} {r : β} (h : vJ v k = some r) : ∃ x, v = .long x ∧ k x = some r := by
  unfold vJ at h; split at h
  · exact ⟨_, rfl, h⟩
  · cases h
theorem vA_s {v : Value} {k : Nat → Option β} {r : β} (h : vA v k = some r) : ∃ x, v = .ref x ∧ k x = some r := by
  unfold vA at h; split at h
  · exact ⟨_, rfl, h⟩
  · cases h
theorem oN_s {α : Type} {v : Option α} {k : α → Option β} {r : β} (h : oN v k = some r) : ∃ w, v = some w ∧ k w = some r := by
  unfold oN at h; split at h
  · exact ⟨_, rfl, h⟩
  · cases h
theorem t1_s {ts : List Nat} {k : Nat → Option β} {r : β} (h : t1 ts k = some r) : ∃ t l, ts = t :: l ∧ k t = some r := by
  unfold t1 at h; split at h
  · exact ⟨_, _, rfl, h⟩
  · cases h
theorem bnd_s {α : Type} {v : Option α} {k : α → Option β} {r : β} (h : v.bind k = some r) : ∃ w, v = some w ∧ k w = some r := by
  cases v with
  | none => cases h
  | some w => exact ⟨w, rfl, h⟩
def swT (x : Int32) (k : Nat → Option β) (d : Nat) : Int → List Nat → Option β
  | _, [] => k d
  | v, t :: ts => if x = Int32.ofInt v then k t else swT x k d (v + 1) ts
def swL (x : Int32) (k : Nat → Option β) (d : Nat) : List (Int × Int) → List Nat → Option β
  | (a, _) :: ps, t :: ts => if x = Int32.ofInt a then k t else swL x k d ps ts
  | _, _ => k d
end POP
/-- what a field or a place of an object is, as a value -/
def fdx (σ : Wd) (k j : Nat) : Nat → Value
  | 0 => .int (σ.1 k j)
  | 1 => .long (σ.2 k j)
  | 2 => .int (σ.1 k j)
  | r + 3 => .ref r
theorem fdx_v (q : Nat → Nat) (σ : Wd) (k j d : Nat) : cv q (fdx σ k j d) = fdv q σ k j d := by
  match d with
  | 0 => rfl
  | 1 => rfl
  | 2 => rfl
  | r + 3 => rfl
section RUN
variable {β : Type}
def recOK (stat : Bool) (kd : Nat) (as : List Value) : Bool := match stat with
  | true => Nat.beq kd 0
  | false => (match as with
    | .ref a :: _ => Nat.blt 0 kd && (objf a (kd - 1)).isSome
    | _ => false)
def xcall (ct : List (Nat × Cal)) (sc : Scr) (nx : Nat) (vs st : List Value) (σ : Wd) (k : PK β) (ix : Nat) (stat : Bool) : Option β :=
  oN (fnd ct ix) fun e =>
    cond (Nat.ble e.1 st.length && Nat.ble ((st.drop e.1).map fun v => v.category).sum 8 && recOK stat e.2.1 (st.take e.1).reverse)
    (match e.2.2 with
      | .inl f => (f (st.take e.1).reverse σ).bind fun p => k nx vs (.int p.1 :: st.drop e.1) p.2
      | .inr (.inl f) => (f (st.take e.1).reverse σ).bind fun p => k nx vs (.long p.1 :: st.drop e.1) p.2
      | .inr (.inr f) => (f (st.take e.1).reverse σ).bind fun τ => k nx vs (st.drop e.1) τ)
    none
def xstep (ft : List (Nat × FTE)) (lt : List (Nat × Int64)) (ct : List (Nat × Cal)) (sc : Scr) (RI : Int32 → Wd → Option β) (RL : Int64 → Wd → Option β) (RV : Wd → Option β) (k : PK β) (ins : Instr) (nx : Nat) (ts : List Nat) (vs st : List Value) (σ : Wd) : Option β :=
  match ins with
  | .iconst n => k nx vs (.int (Int32.ofInt n) :: st) σ
  | .bipush n => k nx vs (.int (Int8.ofInt n).toInt32 :: st) σ
  | .sipush n => k nx vs (.int (Int16.ofInt n).toInt32 :: st) σ
  | .lconst n => k nx vs (.long (Int64.ofNat n) :: st) σ
  | .ldc2_w ix => cond (Nat.blt ix 100000) (oN (fnd lt ix) fun v => k nx vs (.long v :: st) σ) none
  | .ldc_w ix => oN (fnd lt (ix + 100000)) fun v => k nx vs (.int v.toInt32 :: st) σ
  | .iload n => oV vs[n]? fun v => vI v fun x => k nx vs (.int x :: st) σ
  | .iload_n n => oV vs[n.val]? fun v => vI v fun x => k nx vs (.int x :: st) σ
  | .lload n => oV vs[n]? fun v => vJ v fun x => k nx vs (.long x :: st) σ
  | .lload_n n => oV vs[n.val]? fun v => vJ v fun x => k nx vs (.long x :: st) σ
  | .aload n => oV vs[n]? fun v => vA v fun x => k nx vs (.ref x :: st) σ
  | .aload_n n => oV vs[n.val]? fun v => vA v fun x => k nx vs (.ref x :: st) σ
  | .istore n => pI st fun x r => cond (Nat.blt n vs.length) (k nx (st1 vs n (.int x)) r σ) none
  | .istore_n n => pI st fun x r => cond (Nat.blt n.val vs.length) (k nx (st1 vs n.val (.int x)) r σ) none
  | .lstore n => pJ st fun x r => cond (Nat.blt (n + 1) vs.length) (k nx (st2 vs n (.long x)) r σ) none
  | .lstore_n n => pJ st fun x r => cond (Nat.blt (n.val + 1) vs.length) (k nx (st2 vs n.val (.long x)) r σ) none
  | .astore n => pA st fun x r => cond (Nat.blt n vs.length) (k nx (st1 vs n (.ref x)) r σ) none
  | .astore_n n => pA st fun x r => cond (Nat.blt n.val vs.length) (k nx (st1 vs n.val (.ref x)) r σ) none
  | .iinc n d => oV vs[n]? fun v => vI v fun x => cond (Nat.blt n vs.length) (k nx (st1 vs n (.int (x + Int32.ofInt d))) st σ) none
  | .iadd => pII st fun x y r => k nx vs (.int (x + y) :: r) σ
  | .isub => pII st fun x y r => k nx vs (.int (x - y) :: r) σ
  | .imul => pII st fun x y r => k nx vs (.int (x * y) :: r) σ
  | .idiv => pII st fun x y r => if y = 0 then none else k nx vs (.int (x / y) :: r) σ
  | .irem => pII st fun x y r => if y = 0 then none else k nx vs (.int (x - x / y * y) :: r) σ
  | .iand => pII st fun x y r => k nx vs (.int (x &&& y) :: r) σ
  | .ior => pII st fun x y r => k nx vs (.int (x ||| y) :: r) σ
  | .ixor => pII st fun x y r => k nx vs (.int (x ^^^ y) :: r) σ
  | .ishl => pII st fun x y r => k nx vs (.int (x <<< (y &&& 31)) :: r) σ
  | .ishr => pII st fun x y r => k nx vs (.int (x >>> (y &&& 31)) :: r) σ
  | .iushr => pII st fun x y r => k nx vs (.int (x.toUInt32 >>> (y.toUInt32 &&& Int32.toUInt32 31)).toInt32 :: r) σ
  | .ladd => pJJ st fun x y r => k nx vs (.long (x + y) :: r) σ
  | .lsub => pJJ st fun x y r => k nx vs (.long (x - y) :: r) σ
  | .lmul => pJJ st fun x y r => k nx vs (.long (x * y) :: r) σ
  | .land => pJJ st fun x y r => k nx vs (.long (x &&& y) :: r) σ
  | .lor => pJJ st fun x y r => k nx vs (.long (x ||| y) :: r) σ
  | .lcmp => pJJ st fun x y r => k nx vs (.int (lg_cmp x y) :: r) σ
  | .lshl => pJI st fun x y r => k nx vs (.long (x <<< (y.toInt64 &&& 63)) :: r) σ
  | .lushr => pJI st fun x y r => k nx vs (.long (x.toUInt64 >>> (y.toInt64.toUInt64 &&& Int64.toUInt64 63)).toInt64 :: r) σ
  | .i2l => pI st fun x r => k nx vs (.long x.toInt64 :: r) σ
  | .l2i => pJ st fun x r => k nx vs (.int x.toInt32 :: r) σ
  | .i2b => pI st fun x r => k nx vs (.int x.toInt8.toInt32 :: r) σ
  | .dup => pV st fun v r => k nx vs (v :: v :: r) σ
  | .dup2 => pVV st fun v w r => k nx vs (v :: w :: v :: w :: r) σ
  | .goto _ => t1 ts fun t => k t vs st σ
  | .ifCond c _ => t1 ts fun t => pI st fun x r => match c with
    | .eq => if x = 0 then k t vs r σ else k nx vs r σ
    | .ne => if x = 0 then k nx vs r σ else k t vs r σ
    | .lt => if x < 0 then k t vs r σ else k nx vs r σ
    | .ge => if 0 ≤ x then k t vs r σ else k nx vs r σ
    | .gt => if 0 < x then k t vs r σ else k nx vs r σ
    | .le => if x ≤ 0 then k t vs r σ else k nx vs r σ
  | .if_icmp c _ => t1 ts fun t => pII st fun x y r => match c with
    | .eq => if x = y then k t vs r σ else k nx vs r σ
    | .ne => if x = y then k nx vs r σ else k t vs r σ
    | .lt => if x < y then k t vs r σ else k nx vs r σ
    | .ge => if y ≤ x then k t vs r σ else k nx vs r σ
    | .gt => if y < x then k t vs r σ else k nx vs r σ
    | .le => if x ≤ y then k t vs r σ else k nx vs r σ
  | .tableswitch _ lo _ _ => pI st fun x r => (match ts with
    | d :: tl => swT x (fun t => k t vs r σ) d lo tl
    | [] => none)
  | .lookupswitch _ ps => pI st fun x r => (match ts with
    | d :: tl => swL x (fun t => k t vs r σ) d ps.toList tl
    | [] => none)
  | .getfield ix => oN (fnd ft ix) fun e => pA st fun a r => oN (objf a e.1) fun fds => oN fds[e.2.1]? fun d => k nx vs (fdx σ a e.2.1 d :: r) σ
  | .putfield ix => oN (fnd ft ix) fun e => pVA st fun v a r => oN (objf a e.1) fun fds => oN fds[e.2.1]? fun d => (match d with
    | 0 => vI v fun x => k nx vs r (sF σ a e.2.1 x)
    | 1 => vJ v fun x => k nx vs r (sG σ a e.2.1 x)
    | 2 => vI v fun x => if x = 0 ∨ x = 1 then k nx vs r (sF σ a e.2.1 x) else none
    | _ + 3 => none)
  | .iaload => pAI st fun a i r => (match arrn a 0 with
    | some n => (xld σ a n i).bind fun v => k nx vs (.int v :: r) σ
    | none => cond (Nat.beq a 999) ((xsc sc i).bind fun v => k nx vs (.int v :: r) σ) none)
  | .baload => pAI st fun a i r => oN (arrn a 2) fun n => (xld σ a n i).bind fun v => k nx vs (.int v :: r) σ
  | .laload => pAI st fun a i r => oN (arrn a 1) fun n => (xldL σ a n i).bind fun v => k nx vs (.long v :: r) σ
  | .aaload => pAI st fun a i r => oN (arrn a 3) fun _ => if i = 0 then k nx vs (.ref 9 :: r) σ else if i = 1 then k nx vs (.ref 10 :: r) σ else if i = 2 then k nx vs (.ref 11 :: r) σ else if i = 3 then k nx vs (.ref 12 :: r) σ else none
  | .iastore => pAII st fun a i x r => oN (arrn a 0) fun n => (xst σ a n i x).bind fun τ => k nx vs r τ
  | .bastore => pAII st fun a i x r => oN (arrn a 2) fun n => (xstZ σ a n i x).bind fun τ => k nx vs r τ
  | .lastore => pAIJ st fun a i x r => oN (arrn a 1) fun n => (xstL σ a n i x).bind fun τ => k nx vs r τ
  | .arraylength => pA st fun a r => cond (Nat.beq a 999 && Nat.blt 0 sc.1) (k nx vs (.int (Int32.ofNat (sc.1 - 1)) :: r) σ) none
  | .invokevirtual ix => xcall ct sc nx vs st σ k ix false
  | .invokestatic ix => xcall ct sc nx vs st σ k ix true
  | .ireturn => (match st with
    | [.int v] => RI v σ
    | _ => none)
  | .lreturn => (match st with
    | [.long v] => RL v σ
    | _ => none)
  | .return_ => (match st with
    | [] => RV σ
    | _ => none)
  | _ => none
def inC (cuts : List Nat) (pc : Nat) : Bool := cuts.any (Nat.beq pc)
def xrun (T : List (Nat × Ent)) (ft : List (Nat × FTE)) (lt : List (Nat × Int64)) (ct : List (Nat × Cal)) (sc : Scr) (RI : Int32 → Wd → Option β) (RL : Int64 → Wd → Option β) (RV : Wd → Option β) (cuts : List Nat) (K : PK β) : Nat → PK β
  | 0 => fun _ _ _ _ => none
  | n + 1 => fun pc vs st σ => oN (fnd T pc) fun e => xstep ft lt ct sc RI RL RV (fun pc' vs' st' σ' => cond (inC cuts pc') (K pc' vs' st' σ') (xrun T ft lt ct sc RI RL RV cuts K n pc' vs' st' σ')) e.1 e.2.1 e.2.2 vs st σ
end RUN
