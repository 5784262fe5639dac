-- methods over the small machine
section METH
variable {β : Type}
/-- 'o' is what the method's code comes to from there, in every context -/
def GO (cc : ByteArray) (own : String) (nL lvl : Nat) (sc : Scr) (RI : Int32 → Wd → Option β) (RL : Int64 → Wd → Option β) (RV : Wd → Option β) (o : Option β) (pc : Nat) (vs st : List Value) (σ : Wd) : Prop :=
  ∀ (p : Program) (l : Launch) (e : Env) (R : Room) (s : State) (m : MethodId) (args : Array Value) (below : List Frame) (meth : Method) (c : Code) (cells slots : Nat) (Q : State → Prop) (D : va_G) (q : Nat → Nat) (cy : Nat → ClassId) (A : Nat → Prop) (r0 : β),
    XC p R s m args c cc own nL D q cy A sc lvl cells slots →
    (∀ (v : Int32) (σ : Wd), RI v σ = some r0 → ∀ (pc : Nat) (ls : Array Slot) (H : Heap) (locs : List Loc), decode cc pc = .ok (.ireturn, 1) → va_P D clsL (wls q cy σ) H → va_S A s.heap H locs → W p l e R s m args below meth c H locs cells slots Q (F0 m pc ls [.int v])) →
    (∀ (v : Int64) (σ : Wd), RL v σ = some r0 → ∀ (pc : Nat) (ls : Array Slot) (H : Heap) (locs : List Loc), decode cc pc = .ok (.lreturn, 1) → va_P D clsL (wls q cy σ) H → va_S A s.heap H locs → W p l e R s m args below meth c H locs cells slots Q (F0 m pc ls [.long v])) →
    (∀ (σ : Wd), RV σ = some r0 → ∀ (pc : Nat) (ls : Array Slot) (H : Heap) (locs : List Loc), decode cc pc = .ok (.return_, 1) → va_P D clsL (wls q cy σ) H → va_S A s.heap H locs → W p l e R s m args below meth c H locs cells slots Q (F0 m pc ls [])) →
    WG p l e R s m args below meth c nL D q cy A cells slots Q r0 o pc vs st σ
def MDOK (T : List (Nat × Ent)) (ft : List (Nat × FTE)) (lt : List (Nat × Int64)) (ct : List (Nat × Cal)) (cc : ByteArray) (own : String) (lvl : Nat) : Prop :=
  T.all (chk cc) = true ∧ ft.all (fun e => fldchk own e && shchk e) = true ∧ lt.all (ltchk own) = true ∧ ∀ e ∈ ct, CalOK lvl own e
def pick (kl : List (Nat × (List Value → List Value → Wd → Option β))) : PK β := fun pc vs st σ => oN (fnd kl pc) fun f => f vs st σ
variable {cc : ByteArray} {own : String} {nL lvl : Nat} {sc : Scr} {RI : Int32 → Wd → Option β} {RL : Int64 → Wd → Option β} {RV : Wd → Option β} {T : List (Nat × Ent)} {ft : List (Nat × FTE)} {lt : List (Nat × Int64)} {ct : List (Nat × Cal)}
theorem GO.none {pc : Nat} {vs st : List Value} {σ : Wd} : GO cc own nL lvl sc RI RL RV (none : Option β) pc vs st σ := by
  intro p l e R s m args below meth c cells slots Q D q cy A r0 _ _ _ _ h
  cases h
theorem GO.mask {o : Option β} {pc : Nat} {vs st : List Value} {σ : Wd} (bs : List Bool) (h : GO cc own nL lvl sc RI RL RV o pc (msk bs vs) st σ) : GO cc own nL lvl sc RI RL RV o pc vs st σ := by
  intro p l e R s m args below meth c cells slots Q D q cy A r0 C h1 h2 h3 ho H locs ls hP hS hL
  exact h p l e R s m args below meth c cells slots Q D q cy A r0 C h1 h2 h3 ho H locs ls hP hS (hL.mask bs)
theorem GO.cnd {o : Option β} {pc : Nat} {vs st : List Value} {σ : Wd} {b : Bool} (h : b = true → GO cc own nL lvl sc RI RL RV o pc vs st σ) : GO cc own nL lvl sc RI RL RV (cond b o .none) pc vs st σ := by
  cases b with
  | true => exact h rfl
  | false => exact GO.none
theorem GO.run (M : MDOK T ft lt ct cc own lvl) {kl : List (Nat × (List Value → List Value → Wd → Option β))} (hkl : ∀ z ∈ kl, ∀ vs st σ, GO cc own nL lvl sc RI RL RV (z.2 vs st σ) z.1 vs st σ) : ∀ (N : Nat) {pc : Nat} {vs st : List Value} {σ : Wd}, vs.length = nL → GO cc own nL lvl sc RI RL RV (xrun T ft lt ct sc RI RL RV (kl.map (·.1)) (pick kl) N pc vs st σ) pc vs st σ
  | 0, pc, vs, st, σ, hn => GO.none
  | N + 1, pc, vs, st, σ, hn => by
    intro p l e R s m args below meth c cells slots Q D q cy A r0 C h1 h2 h3 ho H locs ls hP hS hL
    obtain ⟨hT, hft, hlt, hct⟩ := M
    unfold xrun at ho
    obtain ⟨⟨ins, nx, ts⟩, hf, ho2⟩ := oN_s ho
    have hc := List.all_eq_true.mp hT _ (fnd_mem _ _ _ hf)
    refine xstep_ok C hft hlt hct h1 h2 h3 (fun pc2 vs2 st2 σ2 hn2 => ?_) hc hn ho2 H locs ls hP hS hL
    cases hcut : inC (kl.map (·.1)) pc2 with
    | false => rw [cond_false]; exact GO.run ⟨hT, hft, hlt, hct⟩ hkl N hn2 p l e R s m args below meth c cells slots Q D q cy A r0 C h1 h2 h3
    | true =>
      rw [cond_true]
      intro hpick
      obtain ⟨f, hff, hfo⟩ := oN_s hpick
      exact hkl _ (fnd_mem _ _ _ hff) vs2 st2 σ2 p l e R s m args below meth c cells slots Q D q cy A r0 C h1 h2 h3 hfo
theorem GO.to (M : MDOK T ft lt ct cc own lvl) {kl : List (Nat × (List Value → List Value → Wd → Option β))} (hkl : ∀ z ∈ kl, ∀ vs st σ, GO cc own nL lvl sc RI RL RV (z.2 vs st σ) z.1 vs st σ) (N : Nat) {pc : Nat} {vs st : List Value} {σ : Wd} (hn : vs.length = nL) {o : Option β} (ho : o = xrun T ft lt ct sc RI RL RV (kl.map (·.1)) (pick kl) N pc vs st σ) : GO cc own nL lvl sc RI RL RV o pc vs st σ := ho ▸ GO.run M hkl N hn
end METH
def sc0 : Scr := (0, fun _ => 0)
def rI (v : Int32) (σ : Wd) : Option (Int32 × Wd) := some (v, σ)
def rZ (v : Int32) (σ : Wd) : Option (Int32 × Wd) := if v = 0 ∨ v = 1 then some (v, σ) else none
def rJ (v : Int64) (σ : Wd) : Option (Int64 × Wd) := some (v, σ)
def nI0 {β : Type} (_ : Int32) (_ : Wd) : Option β := none
def nJ0 {β : Type} (_ : Int64) (_ : Wd) : Option β := none
def nV0 {β : Type} (_ : Wd) : Option β := none
section CT
variable {cc : ByteArray} {own : String} {nL lvl : Nat} {y : MethodName}
theorem XC.of {l : Launch} {p : Program} {e : Env} {s : State} {m : MethodId} {args : Array Value} {below : List Frame} {meth : Method} {c : Code} {s₁ : State} {ret : Option FieldType} {D : va_G} {q : Nat → Nat} {cy : Nat → ClassId} (B : BodyLoose p l y (headSpec (wsM y cc nL ret) (rmL lvl)) cc nL ret e s m args below meth c s₁) (hml : c.maxLocals = nL) (ho : y.cls = own) (hK : va_K D clsL (tysL cy) s) (hq : QI q) : XC p (headSpec (wsM y cc nL ret) (rmL lvl)).room s m args c cc own nL D q cy (AQ q) sc0 lvl 0 0 := by
  have hts := atoms_spec (ws := wsM y cc nL ret) B.pre
  exact ⟨B.exec, B.bytes, hml, by rw [← ho]; exact findClass_of_methodNamed B.named, fun w hw => hts w (List.mem_cons_of_mem _ hw), hK, hq, Or.inl rfl, Nat.le_refl _, Nat.le_refl _, Nat.le_refl _, Nat.le_refl _, fun _ z => z⟩
theorem slen {q : Nat → Nat} {as : List Value} {nL : Nat} (h : (lg_sl as).length ≤ nL) : (lg_sl (as.map (cv q))).length ≤ nL := by
  rw [show (lg_sl (as.map (cv q))).length = (lg_sl as).length from ?_]
  · exact h
  · simp only [lg_sl, List.length_flatMap, List.map_map]
    congr 1
    apply List.map_congr_left
    intro v _
    simp only [Function.comp, cv_cat]
    split <;> rfl
theorem CTI.of {f : List Value → Wd → Option (Int32 × Wd)} (hy : plainName y.cls = true) (ho : y.cls = own) (hf : ∀ (as : List Value) (σ : Wd) (r : (Int32 × Wd)), f as σ = some r → (lg_sl as).length ≤ nL ∧ GO cc own nL lvl sc0 rI nJ0 nV0 (f as σ) 0 (pad nL (lay as)) [] σ) : CTI lvl y cc nL (some .int) f := by
  intro l D q cy hq as σ r τ hr
  refine Met.ofW (cc := cc) (maxL := nL) (ret := (some .int)) hy rfl ?_
  intro p e s m args below meth c s₁ B hml hv
  obtain ⟨rfl, hP, hK⟩ := hv
  obtain ⟨hlen, hgo⟩ := hf as σ _ hr
  have hl := lv_entry (as.map (cv q)) (slen hlen)
  rw [lg_entry_eq]
  refine hgo p l e _ s m _ below meth c 0 0 _ D q cy (AQ q) _ (XC.of B hml ho hK hq) (fun v σ2 h1 pc ls H locs hd hP1 hS1 => ?_) (fun v σ2 h1 => by cases h1) (fun σ2 h1 => by cases h1) hr s.heap [] _ hP va_S.rf (LH.entry hl)
  obtain ⟨rfl, rfl⟩ : v = r ∧ σ2 = τ := by
    have h2 := Option.some.inj h1
    exact ⟨congrArg Prod.fst h2, congrArg Prod.snd h2⟩
  exact W.iret (v := v) B.exec B.bytes B.returns (fun t ht hW => ⟨⟨v, σ2, rfl, ⟨rfl, rfl⟩, by rw [ht]; exact hP1, va_K.moved hW.alike hK⟩, hS1.F ht⟩) hS1.2.2 hd B.notSynchronized
theorem CTZ.of {f : List Value → Wd → Option (Int32 × Wd)} (hy : plainName y.cls = true) (ho : y.cls = own) (hf : ∀ (as : List Value) (σ : Wd) (r : (Int32 × Wd)), f as σ = some r → (lg_sl as).length ≤ nL ∧ GO cc own nL lvl sc0 rZ nJ0 nV0 (f as σ) 0 (pad nL (lay as)) [] σ) : CTI lvl y cc nL (some .boolean) f := by
  intro l D q cy hq as σ r τ hr
  refine Met.ofW (cc := cc) (maxL := nL) (ret := (some .boolean)) hy rfl ?_
  intro p e s m args below meth c s₁ B hml hv
  obtain ⟨rfl, hP, hK⟩ := hv
  obtain ⟨hlen, hgo⟩ := hf as σ _ hr
  have hl := lv_entry (as.map (cv q)) (slen hlen)
  rw [lg_entry_eq]
  refine hgo p l e _ s m _ below meth c 0 0 _ D q cy (AQ q) _ (XC.of B hml ho hK hq) (fun v σ2 h1 pc ls H locs hd hP1 hS1 => ?_) (fun v σ2 h1 => by cases h1) (fun σ2 h1 => by cases h1) hr s.heap [] _ hP va_S.rf (LH.entry hl)
  by_cases h01 : v = 0 ∨ v = 1
  · unfold rZ at h1
    rw [if_pos h01] at h1
    obtain ⟨rfl, rfl⟩ : v = r ∧ σ2 = τ := by
      have h2 := Option.some.inj h1
      exact ⟨congrArg Prod.fst h2, congrArg Prod.snd h2⟩
    exact W.zret (v := v) B.exec B.bytes B.returns (nar_bool h01).2.1 (fun t ht hW => ⟨⟨v, σ2, rfl, ⟨rfl, rfl⟩, by rw [ht]; exact hP1, va_K.moved hW.alike hK⟩, hS1.F ht⟩) hS1.2.2 hd B.notSynchronized
  · unfold rZ at h1
    rw [if_neg h01] at h1
    cases h1
theorem CTL.of {f : List Value → Wd → Option (Int64 × Wd)} (hy : plainName y.cls = true) (ho : y.cls = own) (hf : ∀ (as : List Value) (σ : Wd) (r : (Int64 × Wd)), f as σ = some r → (lg_sl as).length ≤ nL ∧ GO cc own nL lvl sc0 nI0 rJ nV0 (f as σ) 0 (pad nL (lay as)) [] σ) : CTL lvl y cc nL (some .long) f := by
  intro l D q cy hq as σ r τ hr
  refine Met.ofW (cc := cc) (maxL := nL) (ret := (some .long)) hy rfl ?_
  intro p e s m args below meth c s₁ B hml hv
  obtain ⟨rfl, hP, hK⟩ := hv
  obtain ⟨hlen, hgo⟩ := hf as σ _ hr
  have hl := lv_entry (as.map (cv q)) (slen hlen)
  rw [lg_entry_eq]
  refine hgo p l e _ s m _ below meth c 0 0 _ D q cy (AQ q) _ (XC.of B hml ho hK hq) (fun v σ2 h1 => by cases h1) (fun v σ2 h1 pc ls H locs hd hP1 hS1 => ?_) (fun σ2 h1 => by cases h1) hr s.heap [] _ hP va_S.rf (LH.entry hl)
  obtain ⟨rfl, rfl⟩ : v = r ∧ σ2 = τ := by
    have h2 := Option.some.inj h1
    exact ⟨congrArg Prod.fst h2, congrArg Prod.snd h2⟩
  exact W.lret (v := v) B.exec B.bytes B.returns (fun t ht hW => ⟨⟨v, σ2, rfl, ⟨rfl, rfl⟩, by rw [ht]; exact hP1, va_K.moved hW.alike hK⟩, hS1.F ht⟩) hS1.2.2 hd B.notSynchronized
theorem CTV.of {f : List Value → Wd → Option Wd} (hy : plainName y.cls = true) (ho : y.cls = own) (hf : ∀ (as : List Value) (σ : Wd) (r : Wd), f as σ = some r → (lg_sl as).length ≤ nL ∧ GO cc own nL lvl sc0 nI0 nJ0 some (f as σ) 0 (pad nL (lay as)) [] σ) : CTV lvl y cc nL none f := by
  intro l D q cy hq as σ τ hr
  refine Met.ofW (cc := cc) (maxL := nL) (ret := none) hy rfl ?_
  intro p e s m args below meth c s₁ B hml hv
  obtain ⟨rfl, hP, hK⟩ := hv
  obtain ⟨hlen, hgo⟩ := hf as σ _ hr
  have hl := lv_entry (as.map (cv q)) (slen hlen)
  rw [lg_entry_eq]
  refine hgo p l e _ s m _ below meth c 0 0 _ D q cy (AQ q) _ (XC.of B hml ho hK hq) (fun v σ2 h1 => by cases h1) (fun v σ2 h1 => by cases h1) (fun σ2 h1 pc ls H locs hd hP1 hS1 => ?_) hr s.heap [] _ hP va_S.rf (LH.entry hl)
  obtain rfl : σ2 = τ := Option.some.inj h1
  exact W.vret B.exec B.bytes B.returns (fun t ht hW => ⟨⟨σ2, rfl, rfl, by rw [ht]; exact hP1, va_K.moved hW.alike hK⟩, hS1.F ht⟩) hS1.2.2 hd B.notSynchronized
end CT
