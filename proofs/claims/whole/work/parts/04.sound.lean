-- what the small machine computes, the machine does
def AQ (q : Nat → Nat) : Nat → Prop := fun a => ∃ k, k < NC ∧ a = q k
def QI (q : Nat → Nat) : Prop := ∀ i j, i < NC → j < NC → q i = q j → i = j
theorem sh_lt {k : Nat} {e : ShE} (h : SH[k]? = some e) : k < NC := (List.getElem?_eq_some_iff.mp h).1
theorem wls_at {q : Nat → Nat} {cy : Nat → ClassId} {σ : Wd} {k : Nat} {e : ShE} (h : SH[k]? = some e) : (wls q cy σ)[k]? = some (q k, celle q cy σ k e) := by rw [wls_get, h]; rfl
theorem wls_D {q : Nat → Nat} (hq : QI q) (cy : Nat → ClassId) (σ : Wd) : va_D (AQ q) (wls q cy σ) := by
  have g : ∀ (i : Nat) (p : Nat × va_E), (wls q cy σ)[i]? = some p → i < NC ∧ p.1 = q i := by
    intro i p h
    rw [wls_get] at h
    cases hs : SH[i]? with
    | none => rw [hs] at h; cases h
    | some e => rw [hs] at h; cases h; exact ⟨sh_lt hs, rfl⟩
  refine ⟨fun i j p r h1 h2 he => ?_, fun k p h => ?_⟩
  · obtain ⟨a1, a2⟩ := g i p h1
    obtain ⟨b1, b2⟩ := g j r h2
    exact hq i j a1 b1 (by rw [← a2, ← b2, he])
  · obtain ⟨a1, a2⟩ := g k p h
    exact ⟨k, a1, a2⟩
def rmL (lvl : Nat) : Room := { frames := lvl, cells := 0, slots := 0, locals := 64 * lvl }
def wsM (y : MethodName) (bytes : ByteArray) (maxL : Nat) (ret : Option FieldType) : List Cond := .code y bytes maxL ret :: WT
def PcX (D : va_G) (q : Nat → Nat) (cy : Nat → ClassId) (as : List Value) (σ : Wd) : Array Value → State → Prop := va_Pc (as.map (cv q)) (fun U => va_P D clsL (wls q cy σ) U.heap ∧ va_K D clsL (tysL cy) U)
def BX (D : va_G) (q : Nat → Nat) (cy : Nat → ClassId) (u : Wd) (t : State) : Prop := va_P D clsL (wls q cy u) t.heap ∧ va_K D clsL (tysL cy) t
theorem PcX_blind {D : va_G} {q : Nat → Nat} {cy : Nat → ClassId} {as : List Value} {σ : Wd} : FrameBlind (PcX D q cy as σ) := fun a U g mk h => ⟨h.1, h.2.1, va_K.moved (u := U) (U := U.calling g mk a) (Vm.Alike.refl U.vm) h.2.2⟩
def CTI (lvl : Nat) (y : MethodName) (bytes : ByteArray) (maxL : Nat) (ret : Option FieldType) (f : List Value → Wd → Option (Int32 × Wd)) : Prop :=
  ∀ (l : Launch) (D : va_G) (q : Nat → Nat) (cy : Nat → ClassId), QI q → ∀ (as : List Value) (σ : Wd) (r : Int32) (τ : Wd), f as σ = some (r, τ) → Met l y (wsM y bytes maxL ret) (rmL lvl) (PcX D q cy as σ) (va_Qi (fun (r' : Int32) (u : Wd) => r' = r ∧ u = τ) (BX D q cy) (AQ q)) 0 0 (AQ q)
def CTL (lvl : Nat) (y : MethodName) (bytes : ByteArray) (maxL : Nat) (ret : Option FieldType) (f : List Value → Wd → Option (Int64 × Wd)) : Prop :=
  ∀ (l : Launch) (D : va_G) (q : Nat → Nat) (cy : Nat → ClassId), QI q → ∀ (as : List Value) (σ : Wd) (r : Int64) (τ : Wd), f as σ = some (r, τ) → Met l y (wsM y bytes maxL ret) (rmL lvl) (PcX D q cy as σ) (va_Ql (fun (r' : Int64) (u : Wd) => r' = r ∧ u = τ) (BX D q cy) (AQ q)) 0 0 (AQ q)
def CTV (lvl : Nat) (y : MethodName) (bytes : ByteArray) (maxL : Nat) (ret : Option FieldType) (f : List Value → Wd → Option Wd) : Prop :=
  ∀ (l : Launch) (D : va_G) (q : Nat → Nat) (cy : Nat → ClassId), QI q → ∀ (as : List Value) (σ τ : Wd), f as σ = some τ → Met l y (wsM y bytes maxL ret) (rmL lvl) (PcX D q cy as σ) (va_Qv (fun u : Wd => u = τ) (BX D q cy) (AQ q)) 0 0 (AQ q)
def ltchk (own : String) (e : Nat × Int64) : Bool := cond (Nat.blt e.1 100000) (inT (.constantLong own e.1 e.2)) (inT (.constant own (e.1 - 100000) e.2.toInt32))
def nar : Nat → Nat → Nat
  | 0, na => na
  | _ + 1, na => na - 1
def calchk (own : String) (ix na kd : Nat) (y : MethodName) (bytes : ByteArray) (maxL : Nat) (ret : Option FieldType) : Bool :=
  inT (.methodLink own ix y) && inT (.code y bytes maxL ret) && inT (.initialized y.cls) && (match kd with
    | 0 => inT (.static y)
    | c + 1 => inT (.instanceMethod y) && inT (.selects y.cls y y) && decide (clsL[c]?.map (·.1) = some y.cls)) && Nat.ble maxL 45 && decide (y.cls ≠ "java/lang/invoke/MethodHandle") && decide (y.cls ≠ "java/lang/invoke/VarHandle") && decide ((parseMethodDescriptor y.desc).map (fun d => d.parameters.length) = some (nar kd na)) && (match kd with | 0 => true | _ + 1 => Nat.blt 0 na)
def imax (x y : Int32) : Int32 := if x < y then y else x
def imin (x y : Int32) : Int32 := if y < x then y else x
def amax : List Value → Wd → Option (Int32 × Wd) := fun as σ => match as with
  | [.int x, .int y] => some (imax x y, σ)
  | _ => none
def amin : List Value → Wd → Option (Int32 × Wd) := fun as σ => match as with
  | [.int x, .int y] => some (imin x y, σ)
  | _ => none
def mmchk (own : String) (ix : Nat) (y : MethodName) (bytes : ByteArray) : Bool := inT (.methodLink own ix y) && inT (.code y bytes 2 (some .int)) && inT (.initialized "java/lang/Math") && inT (.static y)
def CalG (lvl : Nat) (own : String) (e : Nat × Cal) : Prop := ∃ (y : MethodName) (bytes : ByteArray) (maxL : Nat) (ret : Option FieldType) (lv : Nat), calchk own e.1 e.2.1 e.2.2.1 y bytes maxL ret = true ∧ lv + 1 ≤ lvl ∧ (match e.2.2.2 with
  | .inl f => CTI lv y bytes maxL ret f
  | .inr (.inl f) => CTL lv y bytes maxL ret f
  | .inr (.inr f) => CTV lv y bytes maxL ret f)
def CalOK (lvl : Nat) (own : String) (e : Nat × Cal) : Prop := CalG lvl own e ∨ (e.2 = (2, 0, .inl amax) ∧ mmchk own e.1 Lib.Math.max.name Lib.Math.max.code = true ∧ 1 ≤ lvl) ∨ (e.2 = (2, 0, .inl amin) ∧ mmchk own e.1 Lib.Math.min.name Lib.Math.min.code = true ∧ 1 ≤ lvl)
def lenOf : Instr → Nat
  | .iconst _ => 1 | .bipush _ => 2 | .sipush _ => 3 | .lconst _ => 1 | .ldc2_w _ => 3 | .ldc_w _ => 3
  | .iload _ => 2 | .iload_n _ => 1 | .lload _ => 2 | .lload_n _ => 1 | .aload _ => 2 | .aload_n _ => 1
  | .istore _ => 2 | .istore_n _ => 1 | .lstore _ => 2 | .lstore_n _ => 1 | .astore _ => 2 | .astore_n _ => 1
  | .iinc _ _ => 3 | .goto _ => 3 | .ifCond _ _ => 3 | .if_icmp _ _ => 3
  | .getfield _ => 3 | .putfield _ => 3 | .invokevirtual _ => 3 | .invokestatic _ => 3
  | .tableswitch _ _ _ _ => 0 | .lookupswitch _ _ => 0
  | _ => 1
def zipok (pc : Nat) : List Int → List Nat → Bool
  | [], [] => true
  | o :: os, t :: ts => decide ((pc : Int) + o = (t : Int)) && zipok pc os ts
  | _, _ => false
def chk (cc : ByteArray) (e : Nat × Ent) : Bool := match e.2.1 with
  | .tableswitch d lo hi offs => decide (decode cc e.1 = .ok (e.2.1, e.2.2.1 - e.1)) && zipok e.1 (d :: offs.toList) e.2.2.2 && decide (-100 ≤ lo) && decide (hi ≤ 1000) && decide ((offs.size : Int) = hi - lo + 1)
  | .lookupswitch d ps => decide (decode cc e.1 = .ok (e.2.1, e.2.2.1 - e.1)) && zipok e.1 (d :: ps.toList.map (·.2)) e.2.2.2 && (ps.toList.zip (ps.toList.drop 1)).all (fun (a, next) => a.1 < next.1) && ps.toList.all (fun z => decide (-100 ≤ z.1) && decide (z.1 ≤ 1000))
  | .goto o => decide (decode cc e.1 = .ok (e.2.1, lenOf e.2.1)) && Nat.beq e.2.2.1 (e.1 + lenOf e.2.1) && zipok e.1 [o] e.2.2.2
  | .ifCond _ o => decide (decode cc e.1 = .ok (e.2.1, lenOf e.2.1)) && Nat.beq e.2.2.1 (e.1 + lenOf e.2.1) && zipok e.1 [o] e.2.2.2
  | .if_icmp _ o => decide (decode cc e.1 = .ok (e.2.1, lenOf e.2.1)) && Nat.beq e.2.2.1 (e.1 + lenOf e.2.1) && zipok e.1 [o] e.2.2.2
  | _ => decide (decode cc e.1 = .ok (e.2.1, lenOf e.2.1)) && Nat.beq e.2.2.1 (e.1 + lenOf e.2.1)
/-- a row of the field table: its link, its class and place, whether it can be written (0 int, 1 long, 2 boolean; 3: no) -/
def fldchk (own : String) (e : Nat × FTE) : Bool := match clsL[e.2.1]? with
  | none => false
  | some r => Nat.blt e.2.2.1 r.2.2 && inT (.fieldLink own e.1 (r.2.1 e.2.2.1).1 (r.2.1 e.2.2.1).2.1 (r.2.1 e.2.2.1).2.2.1) && (match e.2.2.2 with
    | 0 => decide ((r.2.1 e.2.2.1).2.2.1 = "I") && !(r.2.1 e.2.2.1).2.2.2
    | 1 => decide ((r.2.1 e.2.2.1).2.2.1 = "J") && !(r.2.1 e.2.2.1).2.2.2
    | 2 => decide ((r.2.1 e.2.2.1).2.2.1 = "Z") && !(r.2.1 e.2.2.1).2.2.2
    | _ + 3 => true)
/-- the shape's codes fit the field table's: place j of a cell of class ci has that code, if the table's is below 3 -/
def shchk (e : Nat × FTE) : Bool := SH.all fun s => match s with
  | .inl (c, fds) => !(Nat.beq c e.2.1) || (match fds[e.2.2.1]? with
    | none => false
    | some d => (Nat.ble 3 d && Nat.ble 3 e.2.2.2) || Nat.beq d e.2.2.2)
  | .inr _ => true
