section SOUND2
variable {β : Type} {p : Program} {l : Launch} {e : Env} {R : Room} {s : State} {m : MethodId} {args : Array Value} {below : List Frame} {meth : Method} {c : Code} {cells slots : Nat} {Q : State → Prop}
variable {cc : ByteArray} {own : String} {nL : Nat} {D : va_G} {q : Nat → Nat} {cy : Nat → ClassId} {A : Nat → Prop} {sc : Scr} {lvl : Nat} {r0 : β}
theorem ifs {P : Prop} [Decidable P] {a b : Option β} {r : β} {X : Prop} (h : (if P then a else b) = some r) (f : P → a = some r → X) (g : ¬ P → b = some r → X) : X := by
  by_cases hp : P
  · rw [if_pos hp] at h; exact f hp h
  · rw [if_neg hp] at h; exact g hp h
theorem cnd_s {b : Bool} {a : Option β} {r : β} (h : cond b a none = some r) : b = true ∧ a = some r := by
  cases b with
  | true => exact ⟨rfl, h⟩
  | false => cases h
theorem chk_d {e : Nat × Ent} (h : chk cc e = true) (h1 : lenOf e.2.1 ≠ 0) : decode cc e.1 = .ok (e.2.1, lenOf e.2.1) ∧ e.2.2.1 = e.1 + lenOf e.2.1 := by
  obtain ⟨pc, ins, nx, ts⟩ := e
  unfold chk at h
  dsimp only at h h1 ⊢
  split at h
  · exact absurd rfl h1
  · exact absurd rfl h1
  all_goals
    simp only [Bool.and_eq_true, decide_eq_true_eq] at h
  · exact ⟨h.1.1, Nat.eq_of_beq_eq_true h.1.2⟩
  · exact ⟨h.1.1, Nat.eq_of_beq_eq_true h.1.2⟩
  · exact ⟨h.1.1, Nat.eq_of_beq_eq_true h.1.2⟩
  · exact ⟨h.1, Nat.eq_of_beq_eq_true h.2⟩
theorem fld_ok {ft : List (Nat × FTE)} (hft : ft.all (fun e => fldchk own e && shchk e) = true) {ix : Nat} {fe : FTE} (hf : fnd ft ix = some fe) {a : Nat} {fds : List Nat} (hs : SH[a]? = some (.inl (fe.1, fds))) {d : Nat} (hd : fds[fe.2.1]? = some d) : ∃ (C : String) (T : u_T) (N : Nat), clsL[fe.1]? = some (C, T, N) ∧ fe.2.1 < N ∧ Cond.fieldLink own ix (T fe.2.1).1 (T fe.2.1).2.1 (T fe.2.1).2.2.1 ∈ WT ∧ (d = 0 → (T fe.2.1).2.2.1 = "I" ∧ (T fe.2.1).2.2.2 = false) ∧ (d = 1 → (T fe.2.1).2.2.1 = "J" ∧ (T fe.2.1).2.2.2 = false) ∧ (d = 2 → (T fe.2.1).2.2.1 = "Z" ∧ (T fe.2.1).2.2.2 = false) := by
  have h := List.all_eq_true.mp hft _ (fnd_mem _ _ _ hf)
  obtain ⟨ci, j, cd⟩ := fe
  rw [Bool.and_eq_true] at h
  obtain ⟨h1, h2⟩ := h
  have h3 := List.all_eq_true.mp h2 _ (List.mem_of_getElem? hs)
  dsimp only at h3 hd hs ⊢
  have hb : Nat.beq ci ci = true := Nat.beq_refl ci
  rw [hb, hd] at h3
  simp only [Bool.not_true, Bool.false_or, Bool.or_eq_true, Bool.and_eq_true] at h3
  unfold fldchk at h1
  cases hcl : clsL[ci]? with
  | none => dsimp only at h1; rw [hcl] at h1; cases h1
  | some r =>
    obtain ⟨C, T, N⟩ := r
    dsimp only at h1
    rw [hcl] at h1
    simp only [Bool.and_eq_true] at h1
    obtain ⟨⟨g1, g2⟩, g3⟩ := h1
    refine ⟨C, T, N, rfl, blt_of g1, inT_mem g2, fun hd0 => ?_, fun hd0 => ?_, fun hd0 => ?_⟩
    all_goals
      subst hd0
      rcases h3 with ⟨h4, -⟩ | h4
      · exact absurd (Nat.le_of_ble_eq_true h4) (by decide)
      · have h5 := Nat.eq_of_beq_eq_true h4
        subst h5
        simpa using g3
theorem setF_obj {σ : Wd} {k ci j : Nat} {fds : List Nat} {x : Int32} (hs : SH[k]? = some (.inl (ci, fds))) (hd : fds[j]? = some 0 ∨ fds[j]? = some 2) : (wls q cy σ).set k (q k, .inr (ci, (fvs q σ k 0 fds).set j (.int x))) = wls q cy (sF σ k j x) := by
  refine wls_set hs (fun i hi e => celle_F hi e) ?_
  show Sum.inr (ci, _) = Sum.inr (ci, _)
  congr 2
  apply List.ext_getElem?
  intro i
  rw [List.getElem?_set, fvs_get, fvs_get]
  by_cases hi : j = i
  · subst hi
    have hl : j < (fvs q σ k 0 fds).length := by
      rw [fvs_len]
      rcases hd with h | h <;> exact (List.getElem?_eq_some_iff.mp h).1
    rw [if_pos rfl, if_pos hl]
    rcases hd with h | h <;> rw [h] <;> simp [fdv, sF]
  · rw [if_neg hi]
    cases hh : fds[i]? with
    | none => rfl
    | some d =>
      simp only [Option.map_some, Option.some.injEq, Nat.zero_add]
      match d with
      | 0 => simp [fdv, sF, Ne.symm hi]
      | 1 => rfl
      | 2 => simp [fdv, sF, Ne.symm hi]
      | r + 3 => rfl
theorem setG_obj {σ : Wd} {k ci j : Nat} {fds : List Nat} {x : Int64} (hs : SH[k]? = some (.inl (ci, fds))) (hd : fds[j]? = some 1) : (wls q cy σ).set k (q k, .inr (ci, (fvs q σ k 0 fds).set j (.long x))) = wls q cy (sG σ k j x) := by
  refine wls_set hs (fun i hi e => celle_G hi e) ?_
  show Sum.inr (ci, _) = Sum.inr (ci, _)
  congr 2
  apply List.ext_getElem?
  intro i
  rw [List.getElem?_set, fvs_get, fvs_get]
  by_cases hi : j = i
  · subst hi
    have hl : j < (fvs q σ k 0 fds).length := by
      rw [fvs_len]
      exact (List.getElem?_eq_some_iff.mp hd).1
    rw [if_pos rfl, if_pos hl, hd]
    simp [fdv, sG]
  · rw [if_neg hi]
    cases hh : fds[i]? with
    | none => rfl
    | some d =>
      simp only [Option.map_some, Option.some.injEq, Nat.zero_add]
      match d with
      | 0 => rfl
      | 1 => simp [fdv, sG, Ne.symm hi]
      | 2 => rfl
      | r + 3 => rfl
theorem setF_arr {σ : Wd} {k t n j : Nat} {x : Int32} (ht : t = 0 ∨ t = 2) (hs : SH[k]? = some (.inr (t, n))) : (wls q cy σ).set k (q k, .inl (cy t, n, .inl (upd (σ.1 k) j x))) = wls q cy (sF σ k j x) := by
  refine wls_set hs (fun i hi e => celle_F hi e) ?_
  have h1 : (sF σ k j x).1 k = upd (σ.1 k) j x := by funext b; simp [sF, upd]
  rcases ht with rfl | rfl
  · show Sum.inl (cy 0, n, Sum.inl ((sF σ k j x).1 k)) = _; rw [h1]
  · show Sum.inl (cy 2, n, Sum.inl ((sF σ k j x).1 k)) = _; rw [h1]
theorem setG_arr {σ : Wd} {k n j : Nat} {x : Int64} (hs : SH[k]? = some (.inr (1, n))) : (wls q cy σ).set k (q k, .inl (cy 1, n, .inr (.inl (vp_updL (σ.2 k) j x)))) = wls q cy (sG σ k j x) := by
  refine wls_set hs (fun i hi e => celle_G hi e) ?_
  have h1 : (sG σ k j x).2 k = vp_updL (σ.2 k) j x := by funext b; simp [sG, vp_updL]
  show Sum.inl (cy 1, n, Sum.inr (Sum.inl ((sG σ k j x).2 k))) = _; rw [h1]
theorem nar_bool {x : Int32} (h : x = 0 ∨ x = 1) : vp_nar .boolean x = x ∧ narrow .boolean (.int x) = .int x ∧ fits .boolean (.int x) = true := by
  rcases h with rfl | rfl <;> decide +kernel
theorem st1_len : ∀ (vs : List Value) (i : Nat) (v : Value), (st1 vs i v).length = vs.length
  | [], i, v => rfl
  | a :: vs, 0, v => rfl
  | a :: vs, i + 1, v => by simp [st1, st1_len vs i v]
theorem st2_len : ∀ (vs : List Value) (i : Nat) (v : Value), (st2 vs i v).length = vs.length
  | [], i, v => rfl
  | [a], 0, v => rfl
  | a :: b :: vs, 0, v => rfl
  | a :: vs, i + 1, v => by simp [st2, st2_len vs i v]
theorem ift {P : Prop} [Decidable P] {a b o : Option β} (h : (if P then a else b) = o) (z : P) : a = o := by rw [if_pos z] at h; exact h
theorem iff {P : Prop} [Decidable P] {a b o : Option β} (h : (if P then a else b) = o) (z : ¬ P) : b = o := by rw [if_neg z] at h; exact h
theorem arr3 {a n : Nat} (h : arrn a 3 = some n) : a = 8 ∧ n = 4 := by
  have h1 := arrn_sh h
  have h2 : ((List.range NC).all fun k => match SH[k]? with | some (.inr (t, z)) => !(Nat.beq t 3) || (Nat.beq k 8 && Nat.beq z 4) | _ => true) = true := by decide +kernel
  have h3 := List.all_eq_true.mp h2 a (List.mem_range.mpr (sh_lt h1))
  rw [h1] at h3
  simp only [Nat.beq_refl, Bool.not_true, Bool.false_or, Bool.and_eq_true] at h3
  exact ⟨Nat.eq_of_beq_eq_true h3.1, Nat.eq_of_beq_eq_true h3.2⟩
theorem xstep_ok {RI : Int32 → Wd → Option β} {RL : Int64 → Wd → Option β} {RV : Wd → Option β} {ft : List (Nat × FTE)} {lt : List (Nat × Int64)} {ct : List (Nat × Cal)} (C : XC p R s m args c cc own nL D q cy A sc lvl cells slots) (hft : ft.all (fun e => fldchk own e && shchk e) = true) (hlt : lt.all (ltchk own) = true) (hct : ∀ e ∈ ct, CalOK lvl own e)
    (hRI : ∀ (v : Int32) (σ : Wd), RI v σ = some r0 → ∀ (pc : Nat) (ls : Array Slot) (H : Heap) (locs : List Loc), decode cc pc = .ok (.ireturn, 1) → va_P D clsL (wls q cy σ) H → va_S A s.heap H locs → W p l e R s m args below meth c H locs cells slots Q (F0 m pc ls [.int v]))
    (hRL : ∀ (v : Int64) (σ : Wd), RL v σ = some r0 → ∀ (pc : Nat) (ls : Array Slot) (H : Heap) (locs : List Loc), decode cc pc = .ok (.lreturn, 1) → va_P D clsL (wls q cy σ) H → va_S A s.heap H locs → W p l e R s m args below meth c H locs cells slots Q (F0 m pc ls [.long v]))
    (hRV : ∀ (σ : Wd), RV σ = some r0 → ∀ (pc : Nat) (ls : Array Slot) (H : Heap) (locs : List Loc), decode cc pc = .ok (.return_, 1) → va_P D clsL (wls q cy σ) H → va_S A s.heap H locs → W p l e R s m args below meth c H locs cells slots Q (F0 m pc ls []))
    {k : PK β} (hk : ∀ pc vs st σ, vs.length = nL → WG p l e R s m args below meth c nL D q cy A cells slots Q r0 (k pc vs st σ) pc vs st σ) {pc nx : Nat} {ins : Instr} {ts : List Nat} (hc : chk cc (pc, ins, nx, ts) = true) {vs st : List Value} {σ : Wd} (hn : vs.length = nL) : WG p l e R s m args below meth c nL D q cy A cells slots Q r0 (xstep ft lt ct sc RI RL RV k ins nx ts vs st σ) pc vs st σ := by
  have hcd : lenOf ins ≠ 0 → decode cc pc = .ok (ins, lenOf ins) ∧ nx = pc + lenOf ins := fun h1 => chk_d (e := (pc, ins, nx, ts)) hc h1
  obtain ⟨hx, hb, hml, hown, hts, hK, hq, hsc, hfr, hlo, hce, hsl, hAQ⟩ := id C
  have jmp : ∀ {o : Int} {t : Nat} {tl : List Nat}, zipok pc [o] ts = true → ts = t :: tl → (pc : Int) + o = (t : Int) := fun {o t tl} hz ht => by
    subst ht
    simp only [zipok, Bool.and_eq_true, decide_eq_true_eq] at hz
    exact hz.1
  intro h H locs ls hP hS hL
  have hs1 : ∀ (i : Nat) (v : Value), (st1 vs i v).length = nL := fun i v => by rw [st1_len]; exact hn
  have hs2 : ∀ (i : Nat) (v : Value), (st2 vs i v).length = nL := fun i v => by rw [st2_len]; exact hn
  cases ins with
  | iconst n =>
    obtain ⟨hd, rfl⟩ := hcd (Nat.succ_ne_zero _)
    exact lv_iconst hx hb hd rfl (hk _ _ _ _ hn h H locs ls hP hS hL)
  | bipush n =>
    obtain ⟨hd, rfl⟩ := hcd (Nat.succ_ne_zero _)
    exact lv_bipush hx hb hd rfl (hk _ _ _ _ hn h H locs ls hP hS hL)
  | sipush n =>
    obtain ⟨hd, rfl⟩ := hcd (Nat.succ_ne_zero _)
    exact lv_sipush hx hb hd rfl (hk _ _ _ _ hn h H locs ls hP hS hL)
  | lconst n =>
    obtain ⟨hd, rfl⟩ := hcd (Nat.succ_ne_zero _)
    exact lv_lconst hx hb hd rfl (hk _ _ _ _ hn h H locs ls hP hS hL)
  | ldc2_w ix =>
    obtain ⟨hd, rfl⟩ := hcd (Nat.succ_ne_zero _)
    obtain ⟨hbl, h⟩ := cnd_s h
    obtain ⟨v, hf, h⟩ := oN_s h
    have hw := List.all_eq_true.mp hlt _ (fnd_mem _ _ _ hf)
    unfold ltchk at hw
    dsimp only at hw
    rw [hbl, cond_true] at hw
    exact lv_ldc2 hx hb hown (hts _ (inT_mem hw)) hd (hk _ _ _ _ hn h H locs ls hP hS hL)
  | ldc_w ix =>
    obtain ⟨hd, rfl⟩ := hcd (Nat.succ_ne_zero _)
    obtain ⟨v, hf, h⟩ := oN_s h
    have hw := List.all_eq_true.mp hlt _ (fnd_mem _ _ _ hf)
    unfold ltchk at hw
    dsimp only at hw
    have hbl : Nat.blt (ix + 100000) 100000 = false := by
      cases hb9 : Nat.blt (ix + 100000) 100000 with
      | false => rfl
      | true => have := blt_of hb9; omega
    rw [hbl, cond_false, Nat.add_sub_cancel] at hw
    exact lv_ldcw hx hb hown (hts _ (inT_mem hw)) hd (hk _ _ _ _ hn h H locs ls hP hS hL)
  | iload n =>
    obtain ⟨hd, rfl⟩ := hcd (Nat.succ_ne_zero _)
    obtain ⟨v, hv, h⟩ := oV_s h
    obtain ⟨x, rfl, h⟩ := vI_s h
    exact lv_iload hx hb hd (hL.at hv (by intro z; cases z)) (hk _ _ _ _ hn h H locs ls hP hS hL)
  | iload_n n =>
    obtain ⟨hd, rfl⟩ := hcd (Nat.succ_ne_zero _)
    obtain ⟨v, hv, h⟩ := oV_s h
    obtain ⟨x, rfl, h⟩ := vI_s h
    exact lv_iload_n hx hb hd rfl (hL.at hv (by intro z; cases z)) (hk _ _ _ _ hn h H locs ls hP hS hL)
  | lload n =>
    obtain ⟨hd, rfl⟩ := hcd (Nat.succ_ne_zero _)
    obtain ⟨v, hv, h⟩ := oV_s h
    obtain ⟨x, rfl, h⟩ := vJ_s h
    exact lv_lload hx hb hd (hL.at hv (by intro z; cases z)) (hk _ _ _ _ hn h H locs ls hP hS hL)
  | lload_n n =>
    obtain ⟨hd, rfl⟩ := hcd (Nat.succ_ne_zero _)
    obtain ⟨v, hv, h⟩ := oV_s h
    obtain ⟨x, rfl, h⟩ := vJ_s h
    exact lv_lload_n hx hb hd rfl (hL.at hv (by intro z; cases z)) (hk _ _ _ _ hn h H locs ls hP hS hL)
  | aload n =>
    obtain ⟨hd, rfl⟩ := hcd (Nat.succ_ne_zero _)
    obtain ⟨v, hv, h⟩ := oV_s h
    obtain ⟨x, rfl, h⟩ := vA_s h
    exact lv_aload hx hb hd (hL.at hv (by intro z; cases z)) (hk _ _ _ _ hn h H locs ls hP hS hL)
  | aload_n n =>
    obtain ⟨hd, rfl⟩ := hcd (Nat.succ_ne_zero _)
    obtain ⟨v, hv, h⟩ := oV_s h
    obtain ⟨x, rfl, h⟩ := vA_s h
    exact lv_aload_n hx hb hd rfl (hL.at hv (by intro z; cases z)) (hk _ _ _ _ hn h H locs ls hP hS hL)
  | istore n =>
    obtain ⟨hd, rfl⟩ := hcd (Nat.succ_ne_zero _)
    obtain ⟨x, r, rfl, h⟩ := pI_s h
    obtain ⟨hb1, h⟩ := cnd_s h
    exact lv_istore hx hb hd hL.has (by rw [← hn]; exact blt_of hb1) rfl (fun ls2 hl2 => hk _ _ _ _ (hs1 _ _) h H locs ls2 hP hS (LH.s1 (v := .int x) hl2))
  | istore_n n =>
    obtain ⟨hd, rfl⟩ := hcd (Nat.succ_ne_zero _)
    obtain ⟨x, r, rfl, h⟩ := pI_s h
    obtain ⟨hb1, h⟩ := cnd_s h
    exact lv_istore_n hx hb hd rfl hL.has (by rw [← hn]; exact blt_of hb1) rfl (fun ls2 hl2 => hk _ _ _ _ (hs1 _ _) h H locs ls2 hP hS (LH.s1 (v := .int x) hl2))
  | astore n =>
    obtain ⟨hd, rfl⟩ := hcd (Nat.succ_ne_zero _)
    obtain ⟨x, r, rfl, h⟩ := pA_s h
    obtain ⟨hb1, h⟩ := cnd_s h
    exact lv_astore hx hb hd hL.has (by rw [← hn]; exact blt_of hb1) rfl (fun ls2 hl2 => hk _ _ _ _ (hs1 _ _) h H locs ls2 hP hS (LH.s1 (v := .ref x) hl2))
  | astore_n n =>
    obtain ⟨hd, rfl⟩ := hcd (Nat.succ_ne_zero _)
    obtain ⟨x, r, rfl, h⟩ := pA_s h
    obtain ⟨hb1, h⟩ := cnd_s h
    exact lv_astore_n hx hb hd rfl hL.has (by rw [← hn]; exact blt_of hb1) rfl (fun ls2 hl2 => hk _ _ _ _ (hs1 _ _) h H locs ls2 hP hS (LH.s1 (v := .ref x) hl2))
  | lstore n =>
    obtain ⟨hd, rfl⟩ := hcd (Nat.succ_ne_zero _)
    obtain ⟨x, r, rfl, h⟩ := pJ_s h
    obtain ⟨hb1, h⟩ := cnd_s h
    exact lv_lstore hx hb hd hL.has (by rw [← hn]; exact blt_of hb1) rfl (fun ls2 hl2 => hk _ _ _ _ (hs2 _ _) h H locs ls2 hP hS (LH.s2 (v := .long x) hl2))
  | lstore_n n =>
    obtain ⟨hd, rfl⟩ := hcd (Nat.succ_ne_zero _)
    obtain ⟨x, r, rfl, h⟩ := pJ_s h
    obtain ⟨hb1, h⟩ := cnd_s h
    exact lv_lstore_n hx hb hd rfl hL.has (by rw [← hn]; exact blt_of hb1) rfl (fun ls2 hl2 => hk _ _ _ _ (hs2 _ _) h H locs ls2 hP hS (LH.s2 (v := .long x) hl2))
  | iinc n d =>
    obtain ⟨hd, rfl⟩ := hcd (Nat.succ_ne_zero _)
    obtain ⟨v, hv, h⟩ := oV_s h
    obtain ⟨x, rfl, h⟩ := vI_s h
    obtain ⟨hb1, h⟩ := cnd_s h
    obtain ⟨kk, hkk⟩ := List.getElem?_of_mem (lhl_mem (q := q) (vs := vs) (z := (n, .int x)) |>.mpr ⟨_, hv, (by intro z; cases z), rfl⟩)
    exact lv_iinc (k := kk) hx hb hd hL.has hkk rfl (by rw [← hn]; exact blt_of hb1) rfl (fun ls2 hl2 => hk _ _ _ _ (hs1 _ _) h H locs ls2 hP hS (LH.s1 (v := .int (x + Int32.ofInt d)) hl2))
  | iadd =>
    obtain ⟨hd, rfl⟩ := hcd (Nat.succ_ne_zero _)
    obtain ⟨x, y, r, rfl, h⟩ := pII_s h
    exact lv_iadd hx hb hd (hk _ _ _ _ hn h H locs ls hP hS hL)
  | isub =>
    obtain ⟨hd, rfl⟩ := hcd (Nat.succ_ne_zero _)
    obtain ⟨x, y, r, rfl, h⟩ := pII_s h
    exact lv_isub hx hb hd (hk _ _ _ _ hn h H locs ls hP hS hL)
  | imul =>
    obtain ⟨hd, rfl⟩ := hcd (Nat.succ_ne_zero _)
    obtain ⟨x, y, r, rfl, h⟩ := pII_s h
    exact lv_imul hx hb hd (hk _ _ _ _ hn h H locs ls hP hS hL)
  | iand =>
    obtain ⟨hd, rfl⟩ := hcd (Nat.succ_ne_zero _)
    obtain ⟨x, y, r, rfl, h⟩ := pII_s h
    exact lv_iand hx hb hd (hk _ _ _ _ hn h H locs ls hP hS hL)
  | ior =>
    obtain ⟨hd, rfl⟩ := hcd (Nat.succ_ne_zero _)
    obtain ⟨x, y, r, rfl, h⟩ := pII_s h
    exact lv_ior hx hb hd (hk _ _ _ _ hn h H locs ls hP hS hL)
  | ixor =>
    obtain ⟨hd, rfl⟩ := hcd (Nat.succ_ne_zero _)
    obtain ⟨x, y, r, rfl, h⟩ := pII_s h
    exact lv_ixor hx hb hd (hk _ _ _ _ hn h H locs ls hP hS hL)
  | ishl =>
    obtain ⟨hd, rfl⟩ := hcd (Nat.succ_ne_zero _)
    obtain ⟨x, y, r, rfl, h⟩ := pII_s h
    exact lv_ishl hx hb hd (hk _ _ _ _ hn h H locs ls hP hS hL)
  | ishr =>
    obtain ⟨hd, rfl⟩ := hcd (Nat.succ_ne_zero _)
    obtain ⟨x, y, r, rfl, h⟩ := pII_s h
    exact lv_ishr hx hb hd (hk _ _ _ _ hn h H locs ls hP hS hL)
  | iushr =>
    obtain ⟨hd, rfl⟩ := hcd (Nat.succ_ne_zero _)
    obtain ⟨x, y, r, rfl, h⟩ := pII_s h
    exact lv_iushr hx hb hd rfl (hk _ _ _ _ hn h H locs ls hP hS hL)
  | idiv =>
    obtain ⟨hd, rfl⟩ := hcd (Nat.succ_ne_zero _)
    obtain ⟨x, y, r, rfl, h⟩ := pII_s h
    exact ifs h (fun _ z => by cases z) (fun hz h => lv_idiv hx hb hd hz (hk _ _ _ _ hn h H locs ls hP hS hL))
  | irem =>
    obtain ⟨hd, rfl⟩ := hcd (Nat.succ_ne_zero _)
    obtain ⟨x, y, r, rfl, h⟩ := pII_s h
    exact ifs h (fun _ z => by cases z) (fun hz h => lv_irem hx hb hd hz (hk _ _ _ _ hn h H locs ls hP hS hL))
  | ladd =>
    obtain ⟨hd, rfl⟩ := hcd (Nat.succ_ne_zero _)
    obtain ⟨x, y, r, rfl, h⟩ := pJJ_s h
    exact lv_ladd hx hb hd (hk _ _ _ _ hn h H locs ls hP hS hL)
  | lsub =>
    obtain ⟨hd, rfl⟩ := hcd (Nat.succ_ne_zero _)
    obtain ⟨x, y, r, rfl, h⟩ := pJJ_s h
    exact lv_lsub hx hb hd (hk _ _ _ _ hn h H locs ls hP hS hL)
  | lmul =>
    obtain ⟨hd, rfl⟩ := hcd (Nat.succ_ne_zero _)
    obtain ⟨x, y, r, rfl, h⟩ := pJJ_s h
    exact lv_lmul hx hb hd (hk _ _ _ _ hn h H locs ls hP hS hL)
  | land =>
    obtain ⟨hd, rfl⟩ := hcd (Nat.succ_ne_zero _)
    obtain ⟨x, y, r, rfl, h⟩ := pJJ_s h
    exact lv_land hx hb hd (hk _ _ _ _ hn h H locs ls hP hS hL)
  | lor =>
    obtain ⟨hd, rfl⟩ := hcd (Nat.succ_ne_zero _)
    obtain ⟨x, y, r, rfl, h⟩ := pJJ_s h
    exact lv_lor hx hb hd (hk _ _ _ _ hn h H locs ls hP hS hL)
  | lcmp =>
    obtain ⟨hd, rfl⟩ := hcd (Nat.succ_ne_zero _)
    obtain ⟨x, y, r, rfl, h⟩ := pJJ_s h
    exact W.lcmp hx hb hd (hk _ _ _ _ hn h H locs ls hP hS hL)
  | lshl =>
    obtain ⟨hd, rfl⟩ := hcd (Nat.succ_ne_zero _)
    obtain ⟨x, y, r, rfl, h⟩ := pJI_s h
    exact lv_lshl hx hb hd rfl (hk _ _ _ _ hn h H locs ls hP hS hL)
  | lushr =>
    obtain ⟨hd, rfl⟩ := hcd (Nat.succ_ne_zero _)
    obtain ⟨x, y, r, rfl, h⟩ := pJI_s h
    exact lv_lushr hx hb hd rfl (hk _ _ _ _ hn h H locs ls hP hS hL)
  | i2l =>
    obtain ⟨hd, rfl⟩ := hcd (Nat.succ_ne_zero _)
    obtain ⟨x, r, rfl, h⟩ := pI_s h
    exact lv_i2l hx hb hd rfl (hk _ _ _ _ hn h H locs ls hP hS hL)
  | i2b =>
    obtain ⟨hd, rfl⟩ := hcd (Nat.succ_ne_zero _)
    obtain ⟨x, r, rfl, h⟩ := pI_s h
    exact lv_i2b hx hb hd rfl (hk _ _ _ _ hn h H locs ls hP hS hL)
  | l2i =>
    obtain ⟨hd, rfl⟩ := hcd (Nat.succ_ne_zero _)
    obtain ⟨x, r, rfl, h⟩ := pJ_s h
    exact lv_l2i hx hb hd rfl (hk _ _ _ _ hn h H locs ls hP hS hL)
  | dup =>
    obtain ⟨hd, rfl⟩ := hcd (Nat.succ_ne_zero _)
    obtain ⟨v, r, rfl, hv, h⟩ := pV_s h
    exact lv_dup hx hb hd (by rw [cv_cat]; exact hv) (hk _ _ _ _ hn h H locs ls hP hS hL)
  | dup2 =>
    obtain ⟨hd, rfl⟩ := hcd (Nat.succ_ne_zero _)
    obtain ⟨v, w, r, rfl, hv, hw, h⟩ := pVV_s h
    exact lv_dup2_11 hx hb hd (by rw [cv_cat]; exact hv) (by rw [cv_cat]; exact hw) (hk _ _ _ _ hn h H locs ls hP hS hL)
  | goto o =>
    obtain ⟨hd, rfl⟩ := hcd (Nat.succ_ne_zero _)
    obtain ⟨t, tl, ht, h⟩ := t1_s h
    have hz : zipok pc [o] ts = true := by unfold chk at hc; simp only [Bool.and_eq_true] at hc; exact hc.2
    exact lv_goto hx hb hd (jmp hz ht) (hk _ _ _ _ hn h H locs ls hP hS hL)
  | ifCond cc2 o =>
    obtain ⟨hd, rfl⟩ := hcd (Nat.succ_ne_zero _)
    obtain ⟨t, tl, ht, h⟩ := t1_s h
    have hz : zipok pc [o] ts = true := by unfold chk at hc; simp only [Bool.and_eq_true] at hc; exact hc.2
    have hj := jmp hz ht
    obtain ⟨x, r, rfl, h⟩ := pI_s h
    cases cc2 with
    | eq => exact lv_if_eq hx hb hd hj (fun z => hk _ _ _ _ hn (ift h z) H locs ls hP hS hL) (fun z => hk _ _ _ _ hn (iff h z) H locs ls hP hS hL)
    | ne => exact lv_if_ne hx hb hd hj (fun z => hk _ _ _ _ hn (iff h z) H locs ls hP hS hL) (fun z => hk _ _ _ _ hn (ift h z) H locs ls hP hS hL)
    | lt => exact lv_if_lt hx hb hd hj (fun z => hk _ _ _ _ hn (ift h z) H locs ls hP hS hL) (fun z => hk _ _ _ _ hn (iff h z) H locs ls hP hS hL)
    | ge => exact lv_if_ge hx hb hd hj (fun z => hk _ _ _ _ hn (ift h z) H locs ls hP hS hL) (fun z => hk _ _ _ _ hn (iff h z) H locs ls hP hS hL)
    | gt => exact lv_if_gt hx hb hd hj (fun z => hk _ _ _ _ hn (ift h z) H locs ls hP hS hL) (fun z => hk _ _ _ _ hn (iff h z) H locs ls hP hS hL)
    | le => exact lv_if_le hx hb hd hj (fun z => hk _ _ _ _ hn (ift h z) H locs ls hP hS hL) (fun z => hk _ _ _ _ hn (iff h z) H locs ls hP hS hL)
  | if_icmp cc2 o =>
    obtain ⟨hd, rfl⟩ := hcd (Nat.succ_ne_zero _)
    obtain ⟨t, tl, ht, h⟩ := t1_s h
    have hz : zipok pc [o] ts = true := by unfold chk at hc; simp only [Bool.and_eq_true] at hc; exact hc.2
    have hj := jmp hz ht
    obtain ⟨x, y, r, rfl, h⟩ := pII_s h
    cases cc2 with
    | eq => exact lv_icmp_eq hx hb hd hj (fun z => hk _ _ _ _ hn (ift h z) H locs ls hP hS hL) (fun z => hk _ _ _ _ hn (iff h z) H locs ls hP hS hL)
    | ne => exact lv_icmp_ne hx hb hd hj (fun z => hk _ _ _ _ hn (iff h z) H locs ls hP hS hL) (fun z => hk _ _ _ _ hn (ift h z) H locs ls hP hS hL)
    | lt => exact lv_icmp_lt hx hb hd hj (fun z => hk _ _ _ _ hn (ift h z) H locs ls hP hS hL) (fun z => hk _ _ _ _ hn (iff h z) H locs ls hP hS hL)
    | ge => exact lv_icmp_ge hx hb hd hj (fun z => hk _ _ _ _ hn (ift h z) H locs ls hP hS hL) (fun z => hk _ _ _ _ hn (iff h z) H locs ls hP hS hL)
    | gt => exact lv_icmp_gt hx hb hd hj (fun z => hk _ _ _ _ hn (ift h z) H locs ls hP hS hL) (fun z => hk _ _ _ _ hn (iff h z) H locs ls hP hS hL)
    | le => exact lv_icmp_le hx hb hd hj (fun z => hk _ _ _ _ hn (ift h z) H locs ls hP hS hL) (fun z => hk _ _ _ _ hn (iff h z) H locs ls hP hS hL)
  | tableswitch df lo hi offs =>
    obtain ⟨x, r, rfl, h⟩ := pI_s h
    unfold chk at hc
    simp only [Bool.and_eq_true, decide_eq_true_eq] at hc
    obtain ⟨⟨⟨⟨hd, hz⟩, hl1⟩, hl2⟩, hl3⟩ := hc
    match ts, h, hz with
    | d :: tl, h, hz =>
      have hzl := zip_len hz
      simp only [zipok, Bool.and_eq_true, decide_eq_true_eq] at hz
      simp only [List.length_cons, Array.length_toList] at hzl
      rcases swT_ok tl lo hl1 (by omega) h with ⟨i, t, h1, h2, h3⟩ | ⟨h1, h2⟩
      · obtain ⟨o, ho1, ho2⟩ := zip_get hz.2 h1
        have hi := (List.getElem?_eq_some_iff.mp h1).1
        exact lv_tableIn (off := o) hx hb hd (by omega) (by omega) (by rw [h2, show (lo + (i : Int) - lo).toNat = i by omega, ← Array.getElem?_toList]; exact ho1) ho2 (hk _ _ _ _ hn h3 H locs ls hP hS hL)
      · refine lv_tableOut hx hb hd ?_ hz.1 (hk _ _ _ _ hn h2 H locs ls hP hS hL)
        by_cases q1 : x.toInt < lo
        · exact Or.inl q1
        · refine Or.inr ?_
          have := h1 (x.toInt - lo).toNat
          omega
  | lookupswitch df ps =>
    obtain ⟨x, r, rfl, h⟩ := pI_s h
    unfold chk at hc
    simp only [Bool.and_eq_true, decide_eq_true_eq] at hc
    obtain ⟨⟨⟨hd, hz⟩, hl1⟩, hl2⟩ := hc
    match ts, h, hz with
    | d :: tl, h, hz =>
      simp only [zipok, Bool.and_eq_true, decide_eq_true_eq] at hz
      obtain ⟨off, t, h1, h2, h3⟩ := swL_ok hz.1 ps.toList tl (by simpa only [Bool.and_eq_true, decide_eq_true_eq] using hl2) hz.2 h
      exact lv_lookup hx hb hd hl1 h1 h2 (hk _ _ _ _ hn h3 H locs ls hP hS hL)
  | getfield ix =>
    obtain ⟨hd, rfl⟩ := hcd (Nat.succ_ne_zero _)
    obtain ⟨fe, hf, h⟩ := oN_s h
    obtain ⟨a, r, rfl, h⟩ := pA_s h
    obtain ⟨fds, hfo, h⟩ := oN_s h
    obtain ⟨d, hfd, h⟩ := oN_s h
    have hsh := objf_sh hfo
    obtain ⟨C0, T0, N0, g1, g2, g3, -, -, -⟩ := fld_ok hft hf hsh hfd
    obtain ⟨ty, k1, k2, k3⟩ := cls_ok _ _ _ _ g1
    refine va_get (D := D) (v := fdv q σ a fe.2.1 d) hx hb hts k1 hown hK hP a (wls_at hsh) g1 fe.2.1 g2 (hts _ g3) (fun _ z => z) (by rw [fvs_get, hfd]; simp) hd ?_
    have hh := hk _ _ _ _ hn h H locs ls hP hS hL
    rw [List.map_cons, fdx_v] at hh
    exact hh
  | putfield ix =>
    obtain ⟨hd, rfl⟩ := hcd (Nat.succ_ne_zero _)
    obtain ⟨fe, hf, h⟩ := oN_s h
    obtain ⟨v, a, r, rfl, h⟩ := pVA_s h
    obtain ⟨fds, hfo, h⟩ := oN_s h
    obtain ⟨d, hfd, h⟩ := oN_s h
    have hsh := objf_sh hfo
    obtain ⟨C0, T0, N0, g1, g2, g3, g4, g5, g6⟩ := fld_ok hft hf hsh hfd
    obtain ⟨ty, k1, k2, k3⟩ := cls_ok _ _ _ _ g1
    have hln : fe.2.1 < (fvs q σ a 0 fds).length := by rw [fvs_len]; exact (List.getElem?_eq_some_iff.mp hfd).1
    match d, h, hfd, g4, g5, g6 with
    | 0, h, hfd, g4, g5, g6 =>
      obtain ⟨x, rfl, h⟩ := vI_s h
      refine va_put (D := D) (v := .int x) (ty := .int) hx hb hts k1 ty k2 k3 hown hK hP ((wls_D hq cy σ).weaken (fun _ _ _ z => hAQ _ z)) hS a (wls_at hsh) g1 fe.2.1 g2 (hts _ g3) (fun _ z => z) (g4 rfl).2 (by rw [(g4 rfl).1]; decide +kernel) rfl rfl hln hd (fun H1 locs1 hP1 hD1 hS1 => ?_)
      rw [setF_obj hsh (Or.inl hfd)] at hP1
      exact hk _ _ _ _ hn h H1 locs1 ls hP1 hS1 hL
    | 1, h, hfd, g4, g5, g6 =>
      obtain ⟨x, rfl, h⟩ := vJ_s h
      refine va_put (D := D) (v := .long x) (ty := .long) hx hb hts k1 ty k2 k3 hown hK hP ((wls_D hq cy σ).weaken (fun _ _ _ z => hAQ _ z)) hS a (wls_at hsh) g1 fe.2.1 g2 (hts _ g3) (fun _ z => z) (g5 rfl).2 (by rw [(g5 rfl).1]; decide +kernel) rfl rfl hln hd (fun H1 locs1 hP1 hD1 hS1 => ?_)
      rw [setG_obj hsh hfd] at hP1
      exact hk _ _ _ _ hn h H1 locs1 ls hP1 hS1 hL
    | 2, h, hfd, g4, g5, g6 =>
      obtain ⟨x, rfl, h⟩ := vI_s h
      refine ifs h (fun hx01 h => ?_) (fun _ z => by cases z)
      refine va_put (D := D) (v := .int x) (ty := .boolean) hx hb hts k1 ty k2 k3 hown hK hP ((wls_D hq cy σ).weaken (fun _ _ _ z => hAQ _ z)) hS a (wls_at hsh) g1 fe.2.1 g2 (hts _ g3) (fun _ z => z) (g6 rfl).2 (by rw [(g6 rfl).1]; decide +kernel) (nar_bool hx01).2.1 (nar_bool hx01).2.2 hln hd (fun H1 locs1 hP1 hD1 hS1 => ?_)
      rw [setF_obj hsh (Or.inr hfd)] at hP1
      exact hk _ _ _ _ hn h H1 locs1 ls hP1 hS1 hL
    | r3 + 3, h, hfd, g4, g5, g6 => exact absurd h (by intro z; cases z)
  | iaload =>
    obtain ⟨hd, rfl⟩ := hcd (Nat.succ_ne_zero _)
    obtain ⟨a, i, r, rfl, h1⟩ := pAI_s h
    cases ha : arrn a 0 with
    | some n =>
      rw [ha] at h1
      obtain ⟨v, hv, h3⟩ := bnd_s h1
      obtain ⟨hi, rfl⟩ := xld_s hv
      exact va_iald (D := D) hx hb hK hP a 0 (wls_at (arrn_sh ha)) rfl hi hd (hk _ _ _ _ hn h3 H locs ls hP hS hL)
    | none =>
      rw [ha] at h1
      obtain ⟨hb9, h2⟩ := cnd_s h1
      have ha9 := Nat.eq_of_beq_eq_true hb9
      subst ha9
      obtain ⟨v, hv, h3⟩ := bnd_s h2
      obtain ⟨hi, rfl⟩ := xsc_s hv
      rcases hsc with h0 | ⟨q1, q2, q3⟩
      · rw [h0] at hi; exact absurd (Or.inr (Nat.zero_le _)) hi
      · exact va_sld hx hb q1 q2 q3 hS hi hd (hk _ _ _ _ hn h3 H locs ls hP hS hL)
  | baload =>
    obtain ⟨hd, rfl⟩ := hcd (Nat.succ_ne_zero _)
    obtain ⟨a, i, r, rfl, h⟩ := pAI_s h
    obtain ⟨n, ha, h⟩ := oN_s h
    obtain ⟨v, hv, h⟩ := bnd_s h
    obtain ⟨hi, rfl⟩ := xld_s hv
    exact va_zald (D := D) hx hb hK hP a 2 (wls_at (arrn_sh ha)) rfl hi hd (hk _ _ _ _ hn h H locs ls hP hS hL)
  | laload =>
    obtain ⟨hd, rfl⟩ := hcd (Nat.succ_ne_zero _)
    obtain ⟨a, i, r, rfl, h⟩ := pAI_s h
    obtain ⟨n, ha, h⟩ := oN_s h
    obtain ⟨v, hv, h⟩ := bnd_s h
    obtain ⟨hi, rfl⟩ := xldL_s hv
    exact va_lald (D := D) hx hb hK hP a 1 (wls_at (arrn_sh ha)) rfl hi hd (hk _ _ _ _ hn h H locs ls hP hS hL)
  | aaload =>
    obtain ⟨hd, rfl⟩ := hcd (Nat.succ_ne_zero _)
    obtain ⟨a, i, r, rfl, h⟩ := pAI_s h
    obtain ⟨n, ha, h⟩ := oN_s h
    have hn4 : a = 8 ∧ n = 4 := arr3 ha
    obtain ⟨rfl, rfl⟩ := hn4
    have key : ∀ j : Nat, j < 4 → i = nI j → k (pc + lenOf .aaload) vs (.ref (9 + j) :: r) σ = some r0 → W p l e R s m args below meth c H locs cells slots Q (F0 m pc ls ((Value.int i :: .ref 8 :: r).map (cv q))) := fun j hj hij hkj => by
      have hi : vp_in i 4 := by rw [hij]; exact vp_in_nI hj (by decide)
      have hjn : i.toNatClampNeg = j := by rw [hij]; exact nI_clamp (by omega)
      refine va_aldq (D := D) hx hb hK hP 8 3 (wls_at (arrn_sh ha)) rfl hi hd ?_
      rw [hjn]
      exact hk _ _ _ _ hn hkj H locs ls hP hS hL
    refine ifs h (fun z h => key 0 (by decide) z h) (fun _ h => ifs h (fun z h => key 1 (by decide) z h) (fun _ h => ifs h (fun z h => key 2 (by decide) z h) (fun _ h => ifs h (fun z h => key 3 (by decide) z h) (fun _ z => by cases z))))
  | iastore =>
    obtain ⟨hd, rfl⟩ := hcd (Nat.succ_ne_zero _)
    obtain ⟨a, i, x, r, rfl, h⟩ := pAII_s h
    obtain ⟨n, ha, h⟩ := oN_s h
    obtain ⟨τ, hv, h⟩ := bnd_s h
    obtain ⟨hi, rfl⟩ := xst_s hv
    refine va_iast (D := D) hx hb hK hP ((wls_D hq cy σ).weaken (fun _ _ _ z => hAQ _ z)) hS a 0 (wls_at (arrn_sh ha)) rfl hi hd (fun H1 locs1 hP1 hD1 hS1 => ?_)
    rw [setF_arr (Or.inl rfl) (arrn_sh ha)] at hP1
    exact hk _ _ _ _ hn h H1 locs1 ls hP1 hS1 hL
  | bastore =>
    obtain ⟨hd, rfl⟩ := hcd (Nat.succ_ne_zero _)
    obtain ⟨a, i, x, r, rfl, h⟩ := pAII_s h
    obtain ⟨n, ha, h⟩ := oN_s h
    obtain ⟨τ, hv, h⟩ := bnd_s h
    obtain ⟨hx01, hi, rfl⟩ := xstZ_s hv
    refine va_zast (D := D) hx hb hK hP ((wls_D hq cy σ).weaken (fun _ _ _ z => hAQ _ z)) hS a 2 (wls_at (arrn_sh ha)) rfl hi hd (fun H1 locs1 hP1 hD1 hS1 => ?_)
    rw [(nar_bool hx01).1, setF_arr (Or.inr rfl) (arrn_sh ha)] at hP1
    exact hk _ _ _ _ hn h H1 locs1 ls hP1 hS1 hL
  | lastore =>
    obtain ⟨hd, rfl⟩ := hcd (Nat.succ_ne_zero _)
    obtain ⟨a, i, x, r, rfl, h⟩ := pAIJ_s h
    obtain ⟨n, ha, h⟩ := oN_s h
    obtain ⟨τ, hv, h⟩ := bnd_s h
    obtain ⟨hi, rfl⟩ := xstL_s hv
    refine va_last (D := D) hx hb hK hP ((wls_D hq cy σ).weaken (fun _ _ _ z => hAQ _ z)) hS a 1 (wls_at (arrn_sh ha)) rfl hi hd (fun H1 locs1 hP1 hD1 hS1 => ?_)
    rw [setG_arr (arrn_sh ha)] at hP1
    exact hk _ _ _ _ hn h H1 locs1 ls hP1 hS1 hL
  | arraylength =>
    obtain ⟨hd, rfl⟩ := hcd (Nat.succ_ne_zero _)
    obtain ⟨a, r, rfl, h1⟩ := pA_s h
    obtain ⟨hb9, h2⟩ := cnd_s h1
    rw [Bool.and_eq_true] at hb9
    have ha9 := Nat.eq_of_beq_eq_true hb9.1
    subst ha9
    have hpos := blt_of hb9.2
    rcases hsc with h0 | ⟨q1, q2, q3⟩
    · omega
    · exact va_slen hx hb q1 q2 q3 hS hd (hk _ _ _ _ hn h2 H locs ls hP hS hL)
  | invokevirtual ix =>
    obtain ⟨hd, rfl⟩ := hcd (Nat.succ_ne_zero _)
    exact xs_call C hct hk (stat := false) hn hd h H locs ls hP hS hL
  | invokestatic ix =>
    obtain ⟨hd, rfl⟩ := hcd (Nat.succ_ne_zero _)
    exact xs_call C hct hk (stat := true) hn hd h H locs ls hP hS hL
  | ireturn =>
    obtain ⟨hd, rfl⟩ := hcd (Nat.succ_ne_zero _)
    match st, h with
    | [.int v], h => exact hRI v σ h pc ls H locs hd hP hS
  | lreturn =>
    obtain ⟨hd, rfl⟩ := hcd (Nat.succ_ne_zero _)
    match st, h with
    | [.long v], h => exact hRL v σ h pc ls H locs hd hP hS
  | return_ =>
    obtain ⟨hd, rfl⟩ := hcd (Nat.succ_ne_zero _)
    match st, h with
    | [], h => exact hRV σ h pc ls H locs hd hP hS
  | _ =>
    exact absurd (show (none : Option β) = some r0 from h) (fun z => by cases z)
end SOUND2
