section SOUND
variable {β : Type} {p : Program} {l : Launch} {e : Env} {R : Room} {s : State} {m : MethodId} {args : Array Value} {below : List Frame} {meth : Method} {c : Code} {cells slots : Nat} {Q : State → Prop}
/-- what holds all through a method -/
def XC (p : Program) (R : Room) (s : State) (m : MethodId) (args : Array Value) (c : Code) (cc : ByteArray) (own : String) (nL : Nat) (D : va_G) (q : Nat → Nat) (cy : Nat → ClassId) (A : Nat → Prop) (sc : Scr) (lvl cells slots : Nat) : Prop :=
  p.tables.exec = Jvm.exec ∧ c.code = cc ∧ c.maxLocals = nL ∧ s.vm.findClass own = some m.cls ∧ (∀ w ∈ WT, w.before args s = true) ∧ va_K D clsL (tysL cy) s ∧ QI q ∧ (sc.1 = 0 ∨ (va_X (q 999) (sc.1 - 1) sc.2 s s.heap ∧ q 999 < s.heap.size ∧ ¬ A (q 999))) ∧ lvl ≤ R.frames ∧ 64 * lvl ≤ R.locals ∧ cells ≤ R.cells ∧ slots ≤ R.slots ∧ (∀ x, AQ q x → A x)
def WG (p : Program) (l : Launch) (e : Env) (R : Room) (s : State) (m : MethodId) (args : Array Value) (below : List Frame) (meth : Method) (c : Code) (nL : Nat) (D : va_G) (q : Nat → Nat) (cy : Nat → ClassId) (A : Nat → Prop) (cells slots : Nat) (Q : State → Prop) (r0 : β) (o : Option β) (pc : Nat) (vs st : List Value) (σ : Wd) : Prop :=
  o = some r0 → ∀ (H : Heap) (locs : List Loc) (ls : Array Slot), va_P D clsL (wls q cy σ) H → va_S A s.heap H locs → LH q ls nL vs → W p l e R s m args below meth c H locs cells slots Q (F0 m pc ls (st.map (cv q)))
theorem toI {n : Int} (h1 : -100 ≤ n) (h2 : n ≤ 1000) : (Int32.ofInt n).toInt = n := by
  rw [Int32.toInt_ofInt]
  have hs : (Int32.size : Int) = 4294967296 := by decide
  exact Int.bmod_eq_of_le (by omega) (by omega)
theorem zip_get {pc : Nat} : ∀ {os : List Int} {ts : List Nat} {i t : Nat}, zipok pc os ts = true → ts[i]? = some t → ∃ o, os[i]? = some o ∧ (pc : Int) + o = (t : Int)
  | [], [], i, t, h, ht => by simp at ht
  | [], _ :: _, i, t, h, ht => by simp [zipok] at h
  | _ :: _, [], i, t, h, ht => by simp at ht
  | o :: os, u :: ts, 0, t, h, ht => by
    simp only [zipok, Bool.and_eq_true, decide_eq_true_eq] at h
    simp at ht
    exact ⟨o, rfl, by rw [← ht]; exact h.1⟩
  | o :: os, u :: ts, i + 1, t, h, ht => by
    simp only [zipok, Bool.and_eq_true, decide_eq_true_eq] at h
    rw [List.getElem?_cons_succ] at ht ⊢
    exact zip_get (i := i) h.2 ht
theorem zip_len {pc : Nat} : ∀ {os : List Int} {ts : List Nat}, zipok pc os ts = true → os.length = ts.length
  | [], [], h => rfl
  | [], _ :: _, h => by simp [zipok] at h
  | _ :: _, [], h => by simp [zipok] at h
  | o :: os, u :: ts, h => by
    simp only [zipok, Bool.and_eq_true, decide_eq_true_eq] at h
    simp [zip_len h.2]
theorem swT_ok {x : Int32} {k : Nat → Option β} {d : Nat} {r : β} : ∀ (tl : List Nat) (v : Int), -100 ≤ v → v + tl.length ≤ 1001 → swT x k d v tl = some r → (∃ (i t : Nat), tl[i]? = some t ∧ x.toInt = v + i ∧ k t = some r) ∨ ((∀ i : Nat, i < tl.length → x.toInt ≠ v + i) ∧ k d = some r)
  | [], v, h1, h2, h => Or.inr ⟨fun i hi => absurd hi (Nat.not_lt_zero i), h⟩
  | t :: tl, v, h1, h2, h => by
    simp only [List.length_cons] at h2
    unfold swT at h
    by_cases hx : x = Int32.ofInt v
    · rw [if_pos hx] at h
      exact Or.inl ⟨0, t, rfl, by rw [hx, toI h1 (by omega)]; simp, h⟩
    · rw [if_neg hx] at h
      rcases swT_ok tl (v + 1) (by omega) (by omega) h with ⟨i, t', a1, a2, a3⟩ | ⟨a1, a2⟩
      · exact Or.inl ⟨i + 1, t', by simpa using a1, by rw [a2]; push_cast; omega, a3⟩
      · refine Or.inr ⟨fun i hi => ?_, a2⟩
        match i with
        | 0 =>
          intro he
          apply hx
          apply Int32.toInt_inj.mp
          rw [toI h1 (by omega), he]; simp
        | i + 1 =>
          have := a1 i (by simp at hi; omega)
          intro he
          apply this
          rw [he]; push_cast; omega
theorem swL_ok {x : Int32} {k : Nat → Option β} {d pc : Nat} {dflt : Int} {r : β} (hd : (pc : Int) + dflt = (d : Int)) : ∀ (ps : List (Int × Int)) (tl : List Nat), (ps.all (fun z => decide (-100 ≤ z.1) && decide (z.1 ≤ 1000))) = true → zipok pc (ps.map (·.2)) tl = true → swL x k d ps tl = some r → ∃ (off : Int) (t : Nat), Op.lookupswitch.offset ps dflt x.toInt = off ∧ (pc : Int) + off = (t : Int) ∧ k t = some r
  | [], [], h1, h2, h => ⟨dflt, d, Op.lookupswitch.offset_nil _ _, hd, h⟩
  | [], _ :: _, h1, h2, h => by simp [zipok] at h2
  | _ :: _, [], h1, h2, h => by simp [zipok] at h2
  | (a, o) :: ps, t :: tl, h1, h2, h => by
    simp only [List.all_cons, Bool.and_eq_true, decide_eq_true_eq] at h1
    simp only [List.map_cons, zipok, Bool.and_eq_true, decide_eq_true_eq] at h2
    unfold swL at h
    rw [Op.lookupswitch.offset_cons]
    by_cases hx : x = Int32.ofInt a
    · rw [if_pos hx] at h
      exact ⟨o, t, by rw [if_pos (by rw [hx, toI h1.1.1 h1.1.2])], h2.1, h⟩
    · rw [if_neg hx] at h
      rw [if_neg (fun he => hx (Int32.toInt_inj.mp (by rw [toI h1.1.1 h1.1.2, he])))]
      exact swL_ok hd ps tl h1.2 h2.2 h
variable {cc : ByteArray} {own : String} {nL : Nat} {D : va_G} {q : Nat → Nat} {cy : Nat → ClassId} {A : Nat → Prop} {sc : Scr} {lvl : Nat} {r0 : β}
theorem LH.at {q : Nat → Nat} {ls : Array Slot} {nL : Nat} {vs : List Value} {n : Nat} {v : Value} (h : LH q ls nL vs) (hv : vs[n]? = some v) (hn : v ≠ .null) : ls[n]? = some (.val (cv q v)) := h.2.2 n v hv hn
theorem blt_of {a b : Nat} (h : Nat.blt a b = true) : a < b := Nat.le_of_ble_eq_true h
/-- a stored int or reference -/
theorem xs_call {ct : List (Nat × Cal)} (C : XC p R s m args c cc own nL D q cy A sc lvl cells slots) (hct : ∀ e ∈ ct, CalOK lvl own e) {k : PK β} (hk : ∀ pc vs st σ, vs.length = nL → WG p l e R s m args below meth c nL D q cy A cells slots Q r0 (k pc vs st σ) pc vs st σ) {pc ix : Nat} {stat : Bool} {vs st : List Value} {σ : Wd} (hnL : vs.length = nL) (hd : decode cc pc = .ok (cond stat (.invokestatic ix) (.invokevirtual ix), 3)) : WG p l e R s m args below meth c nL D q cy A cells slots Q r0 (xcall ct sc (pc + 3) vs st σ k ix stat) pc vs st σ := by
  intro h H locs ls hP hS hL
  obtain ⟨hx, hb, hml, hown, hts, hK, hq, -, hfr, hlo, hce, hsl, hAQ⟩ := C
  unfold xcall at h
  obtain ⟨⟨na, kd, fn⟩, hf, h1⟩ := oN_s h
  clear h
  cases hcnd : (Nat.ble na st.length && Nat.ble ((st.drop na).map fun v => v.category).sum 8 && recOK stat kd (st.take na).reverse) with
  | false => dsimp only at h1; rw [hcnd] at h1; cases h1
  | true =>
    dsimp only at h1
    rw [hcnd, cond_true] at h1
    simp only [Bool.and_eq_true] at hcnd
    obtain ⟨⟨hna, hcat⟩, hrec⟩ := hcnd
    have hna := Nat.le_of_ble_eq_true hna
    have hcat := Nat.le_of_ble_eq_true hcat
    have hsize : ls.size = nL := hL.1
    rcases hct _ (fnd_mem _ _ _ hf) with hG | ⟨he, hm, hl1⟩ | ⟨he, hm, hl1⟩
    rotate_left
    · cases he
      dsimp only at h1
      obtain ⟨⟨r, τ⟩, hr, h2⟩ := bnd_s h1
      have hstk : st = (st.take 2).reverse.reverse ++ st.drop 2 := by rw [List.reverse_reverse, List.take_append_drop]
      generalize (st.take 2).reverse = as at hr hstk
      generalize st.drop 2 = rest at h2 hstk hcat
      unfold amax at hr
      split at hr
      · rename_i x y
        cases hr
        subst hstk
        have hcat2 : ((rest.map (cv q)).map fun v => v.category).sum ≤ 8 := by
          rw [List.map_map, show ((fun v : Value => v.category) ∘ cv q) = (fun v : Value => v.category) from funext fun v => cv_cat q v]
          exact Nat.le_of_ble_eq_true hcat
        simp only [mmchk, Bool.and_eq_true] at hm
        cases stat with
        | false => simp [recOK] at hrec
        | true => exact va_mmax (rest := rest.map (cv q)) hx hb (hml.trans hsize.symm) hown (hts _ (inT_mem hm.1.1.1)) (hts _ (inT_mem hm.2)) (hts _ (inT_mem hm.1.2)) (hts _ (inT_mem hm.1.1.2)) (by omega) (by omega) (by omega) (by omega) hd (hk _ _ _ _ hnL h2 H locs ls hP hS hL)
      · cases hr
    · cases he
      dsimp only at h1
      obtain ⟨⟨r, τ⟩, hr, h2⟩ := bnd_s h1
      have hstk : st = (st.take 2).reverse.reverse ++ st.drop 2 := by rw [List.reverse_reverse, List.take_append_drop]
      generalize (st.take 2).reverse = as at hr hstk
      generalize st.drop 2 = rest at h2 hstk hcat
      unfold amin at hr
      split at hr
      · rename_i x y
        cases hr
        subst hstk
        have hcat2 : ((rest.map (cv q)).map fun v => v.category).sum ≤ 8 := by
          rw [List.map_map, show ((fun v : Value => v.category) ∘ cv q) = (fun v : Value => v.category) from funext fun v => cv_cat q v]
          exact Nat.le_of_ble_eq_true hcat
        simp only [mmchk, Bool.and_eq_true] at hm
        cases stat with
        | false => simp [recOK] at hrec
        | true => exact va_mmin (rest := rest.map (cv q)) hx hb (hml.trans hsize.symm) hown (hts _ (inT_mem hm.1.1.1)) (hts _ (inT_mem hm.2)) (hts _ (inT_mem hm.1.2)) (hts _ (inT_mem hm.1.1.2)) (by omega) (by omega) (by omega) (by omega) hd (hk _ _ _ _ hnL h2 H locs ls hP hS hL)
      · cases hr
    obtain ⟨y, bytes, maxL, ret, lv, hchk, hlv, hCT⟩ := hG
    dsimp only at hchk hCT
    simp only [calchk, Bool.and_eq_true, decide_eq_true_eq] at hchk
    obtain ⟨⟨⟨⟨⟨⟨⟨⟨w1, w2⟩, w3⟩, w4⟩, w5⟩, w6⟩, w7⟩, w8⟩, w9⟩ := hchk
    have w5 := Nat.le_of_ble_eq_true w5
    generalize has : (st.take na).reverse = as at h1 hrec
    have hlen : as.length = na := by rw [← has, List.length_reverse, List.length_take]; omega
    have hst : st = as.reverse ++ st.drop na := by rw [← has, List.reverse_reverse, List.take_append_drop]
    generalize st.drop na = rest at h1 hst hcat
    have hcat2 : ((rest.map (cv q)).map fun v => v.category).sum ≤ 8 := by
      rw [List.map_map, show ((fun v : Value => v.category) ∘ cv q) = (fun v : Value => v.category) from funext fun v => cv_cat q v]
      exact hcat
    have hwsm : ∀ w ∈ wsM y bytes maxL ret, w ∈ WT := fun w hw => by
      rcases List.mem_cons.mp hw with rfl | hw
      · exact inT_mem w2
      · exact hw
    have hlvl1 : (rmL lv).frames + 1 ≤ R.frames := Nat.le_trans hlv hfr
    have hlvl2 : 8 + (maxL + 11) + (rmL lv).locals ≤ R.locals := by
      show 8 + (maxL + 11) + 64 * lv ≤ R.locals
      omega
    have hHS := hS.1
    have hpre : ∀ (U : State), U.heap = H → s.WarmedH U.vm → PcX D q cy as σ (as.map (cv q)).toArray U := fun U hU hW => ⟨rfl, by rw [hU]; exact hP, va_K.moved hW.alike hK⟩
    have hcb : (hdp : (parseMethodDescriptor y.desc).map (fun d => d.parameters.length) = some (nar kd na)) → CallB R s args own ix y bytes maxL ret (wsM y bytes maxL ret) (rmL lv) 0 0 (nar kd na) := fun hdp =>
      callB_of _ hts (gi_wt hwsm) rfl rfl rfl (hts _ (inT_mem w3)) (hts _ (inT_mem w1)) ⟨w6, w7, hdp⟩ ⟨hlvl1, hlvl2⟩
    cases stat with
    | true =>
      have hkd : kd = 0 := Nat.eq_of_beq_eq_true hrec
      subst hkd
      dsimp only at w4 w8
      have hstk : st.map (cv q) = (as.map (cv q)).reverse ++ rest.map (cv q) := by rw [hst, List.map_append, List.map_reverse]
      match fn, h1, hCT with
      | .inl f, h2, hCT =>
        obtain ⟨⟨r, τ⟩, hr, h3⟩ := bnd_s h2
        refine va_calli (va_runS (As := as.map (cv q)) (rest := rest.map (cv q)) ⟨hx, hb, hml, hown, hts⟩ (hCT l D q cy hq as σ r τ hr) ⟨hcb w8, hts _ (inT_mem w4)⟩ ⟨PcX_blind, hpre⟩ rfl (by rw [List.length_map]; exact hlen) hsize hstk (lv_room hcat2) hd ⟨hce, hsl⟩) hS (fun _ _ z => hAQ _ z) (fun _ z => hAQ _ z) (fun r' u t H1 locs1 ht hvm hp hB hz hk1 hS1 => ?_)
        obtain ⟨rfl, rfl⟩ := hp
        exact hk _ _ _ _ hnL h3 H1 locs1 ls (by rw [← ht]; exact hB.1) hS1 hL
      | .inr (.inl f), h2, hCT =>
        obtain ⟨⟨r, τ⟩, hr, h3⟩ := bnd_s h2
        refine va_calll (va_runS (As := as.map (cv q)) (rest := rest.map (cv q)) ⟨hx, hb, hml, hown, hts⟩ (hCT l D q cy hq as σ r τ hr) ⟨hcb w8, hts _ (inT_mem w4)⟩ ⟨PcX_blind, hpre⟩ rfl (by rw [List.length_map]; exact hlen) hsize hstk (lv_room hcat2) hd ⟨hce, hsl⟩) hS (fun _ _ z => hAQ _ z) (fun _ z => hAQ _ z) (fun r' u t H1 locs1 ht hvm hp hB hz hk1 hS1 => ?_)
        obtain ⟨rfl, rfl⟩ := hp
        exact hk _ _ _ _ hnL h3 H1 locs1 ls (by rw [← ht]; exact hB.1) hS1 hL
      | .inr (.inr f), h2, hCT =>
        obtain ⟨τ, hr, h3⟩ := bnd_s h2
        refine va_callv (va_runS (As := as.map (cv q)) (rest := rest.map (cv q)) ⟨hx, hb, hml, hown, hts⟩ (hCT l D q cy hq as σ τ hr) ⟨hcb w8, hts _ (inT_mem w4)⟩ ⟨PcX_blind, hpre⟩ rfl (by rw [List.length_map]; exact hlen) hsize hstk (lv_room hcat2) hd ⟨hce, hsl⟩) hS (fun _ _ z => hAQ _ z) (fun _ z => hAQ _ z) (fun u t H1 locs1 ht hvm hp hB hz hk1 hS1 => ?_)
        subst hp
        exact hk _ _ _ _ hnL h3 H1 locs1 ls (by rw [← ht]; exact hB.1) hS1 hL
    | false =>
      match as, hrec with
      | .ref a :: as', hrec =>
        simp only [recOK, Bool.and_eq_true] at hrec
        obtain ⟨hk0, hob⟩ := hrec
        obtain ⟨ci, rfl⟩ : ∃ ci, kd = ci + 1 := ⟨kd - 1, by have := blt_of hk0; omega⟩
        obtain ⟨fds, hfd⟩ := Option.isSome_iff_exists.mp hob
        have hsh := objf_sh hfd
        simp only [Nat.add_sub_cancel] at hsh
        dsimp only at w4 w8
        simp only [Bool.and_eq_true, decide_eq_true_eq] at w4
        obtain ⟨⟨w4a, w4b⟩, w4c⟩ := w4
        have hlen' : as'.length = na - 1 := by simp at hlen; omega
        have hstk : st.map (cv q) = (as'.map (cv q)).reverse ++ .ref (q a) :: rest.map (cv q) := by
          rw [hst]
          simp [cv]
        obtain ⟨rc, hrc, hrn⟩ : ∃ rc, clsL[ci]? = some rc ∧ rc.1 = y.cls := by
          cases hcl : clsL[ci]? with
          | none => rw [hcl] at w4c; cases w4c
          | some rc => rw [hcl] at w4c; exact ⟨rc, rfl, Option.some.inj w4c⟩
        have hcell := wls_at (q := q) (cy := cy) (σ := σ) hsh
        have hrecv := va_recv hK hP hrc hcell
        rw [hrn] at hrecv
        match fn, h1, hCT with
        | .inl f, h2, hCT =>
          obtain ⟨⟨r, τ⟩, hr, h3⟩ := bnd_s h2
          refine va_calli (va_runV (C := y.cls) (b := q a) (As := as'.map (cv q)) (rest := rest.map (cv q)) ⟨hx, hb, hml, hown, hts⟩ (hCT l D q cy hq _ σ r τ hr) ⟨hcb w8, hts _ (inT_mem w4a), hts _ (inT_mem w4b)⟩ ⟨PcX_blind, hrecv, hpre⟩ rfl (by rw [List.length_map]; exact hlen') hsize hstk (lv_room hcat2) hd ⟨hce, hsl⟩) hS (fun _ _ z => hAQ _ z) (fun _ z => hAQ _ z) (fun r' u t H1 locs1 ht hvm hp hB hz hk1 hS1 => ?_)
          obtain ⟨rfl, rfl⟩ := hp
          exact hk _ _ _ _ hnL h3 H1 locs1 ls (by rw [← ht]; exact hB.1) hS1 hL
        | .inr (.inl f), h2, hCT =>
          obtain ⟨⟨r, τ⟩, hr, h3⟩ := bnd_s h2
          refine va_calll (va_runV (C := y.cls) (b := q a) (As := as'.map (cv q)) (rest := rest.map (cv q)) ⟨hx, hb, hml, hown, hts⟩ (hCT l D q cy hq _ σ r τ hr) ⟨hcb w8, hts _ (inT_mem w4a), hts _ (inT_mem w4b)⟩ ⟨PcX_blind, hrecv, hpre⟩ rfl (by rw [List.length_map]; exact hlen') hsize hstk (lv_room hcat2) hd ⟨hce, hsl⟩) hS (fun _ _ z => hAQ _ z) (fun _ z => hAQ _ z) (fun r' u t H1 locs1 ht hvm hp hB hz hk1 hS1 => ?_)
          obtain ⟨rfl, rfl⟩ := hp
          exact hk _ _ _ _ hnL h3 H1 locs1 ls (by rw [← ht]; exact hB.1) hS1 hL
        | .inr (.inr f), h2, hCT =>
          obtain ⟨τ, hr, h3⟩ := bnd_s h2
          refine va_callv (va_runV (C := y.cls) (b := q a) (As := as'.map (cv q)) (rest := rest.map (cv q)) ⟨hx, hb, hml, hown, hts⟩ (hCT l D q cy hq _ σ τ hr) ⟨hcb w8, hts _ (inT_mem w4a), hts _ (inT_mem w4b)⟩ ⟨PcX_blind, hrecv, hpre⟩ rfl (by rw [List.length_map]; exact hlen') hsize hstk (lv_room hcat2) hd ⟨hce, hsl⟩) hS (fun _ _ z => hAQ _ z) (fun _ z => hAQ _ z) (fun u t H1 locs1 ht hvm hp hB hz hk1 hS1 => ?_)
          subst hp
          exact hk _ _ _ _ hnL h3 H1 locs1 ls (by rw [← ht]; exact hB.1) hS1 hL
end SOUND
