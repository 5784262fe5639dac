/-! A small machine over pure worlds: cells by number, ints and longs by cell and place; what it computes, the machine does (xsound). -/
def WT : List Cond := lw_tbl.filter goodWord
def inT (w : Cond) : Bool := decide (w ∈ lw_tbl) && goodWord w
theorem inT_mem {w : Cond} (h : inT w = true) : w ∈ WT := by
  simp only [inT, Bool.and_eq_true, decide_eq_true_eq] at h
  exact List.mem_filter.mpr h
theorem wt_good {w : Cond} (h : w ∈ WT) : (w.onTables && w.keeps) = true ∨ ∃ ty, w = .arrayClass ty := good_of_word (List.mem_filter.mp h).2
theorem gi_wt {ws : List Cond} (h : ∀ w ∈ ws, w ∈ WT) : GoodIn WT ws := fun w hw => ⟨h w hw, wt_good (h w hw)⟩
theorem inW {ws : List Cond} (h : ∀ w ∈ ws, w ∈ lw_tbl) (hg : ws.all goodWord = true) : ∀ w ∈ ws, w ∈ WT := fun w hw => List.mem_filter.mpr ⟨h w hw, List.all_eq_true.mp hg w hw⟩
-- worlds
abbrev Wd : Type := (Nat → Nat → Int32) × (Nat → Nat → Int64)
def sF (σ : Wd) (k n : Nat) (x : Int32) : Wd := (fun a b => if a = k then (if b = n then x else σ.1 a b) else σ.1 a b, σ.2)
def sG (σ : Wd) (k n : Nat) (x : Int64) : Wd := (σ.1, fun a b => if a = k then (if b = n then x else σ.2 a b) else σ.2 a b)
abbrev ShE : Type := (Nat × List Nat) ⊕ (Nat × Nat)
def clsL : List vw_C := [(RX1, TX1, 2), (RX2, TX2, 15), (RX3, TX3, 3), (RX4, TX4, 8), (RX5, TX5, 4), (RX6, TX6, 4), (RX7, TX7, 3), (RX8, TX8, 6), (RX9, TX9, 9), (RX10, TX10, 47)]
/-! cells: 0 X, 1 Tape, 2 Plans, 3 Known, 4 Net, 5 Timing, 6 Sweep, 7 Search, 8 X.shelves, 9 Shelf0, 10 Shelf1, 11 Shelf2, 12 Shelf3, 13 X.live, 14 Tape.bytes, 15 Plans.names, 16 Plans.blocks, 17 Known.asked, 18 Net.sort, 19 Net.lower, 20 Net.upper, 21 Net.used, 22 Net.sums, 23 Net.newest, 24 Net.before, 25 Net.usedByFirst, 26 Net.onlyOne, 27 Net.bothOf, 28 Net.sumsByZero, 29 Net.sumsByOne, 30 Timing.delays, 31 Timing.arrivals, 32 Timing.when, 33 Timing.value, 34 Timing.hanging, 35 Timing.depth, 36 Sweep.settled, 37 Shelf0.items, 38 Shelf1.items, 39 Shelf2.items, 40 Shelf3.items, 41 M, 42 M.names, 43 M.nameLong, 44 M.blocks, 45 M.blockMany, 46 M.tape, 47 M.named, 48 M.told, 49 M.knownBlocks, 50 M.knownMany, 51 M.delays, 52 M.arrivals, 53 M.kinds, 54 M.lefts, 55 M.rights, 56 M.used, 57 M.comes, 58 M.values, 59 M.chains, 60 M.outs, 61 M.zeros, 62 M.others, 63 M.row, 64 M.best, 65 M.ways, 66 M.then, 67 M.sorts, 68 M.sizes, 69 M.shelved, 70 M.items -/
def SH : List ShE := [.inl (8, [4, 5, 6, 7, 8, 9, 10, 11, 16]), .inl (6, [17, 0, 1]), .inl (2, [18, 19, 0]), .inl (0, [20, 0]), .inl (1, [21, 22, 23, 24, 25, 0, 0, 0, 26, 27, 28, 29, 30, 31, 32]), .inl (7, [33, 34, 35, 36, 37, 38]), .inl (5, [2, 39, 1, 0]), .inl (3, [2, 0, 0, 0, 1, 0, 0, 0]), .inr (3, 4), .inl (4, [40, 0, 0, 1]), .inl (4, [41, 0, 0, 1]), .inl (4, [42, 0, 0, 1]), .inl (4, [43, 0, 0, 1]), .inr (1, 13), .inr (0, 40), .inr (0, 12), .inr (1, 12), .inr (1, 20), .inr (0, 512), .inr (0, 512), .inr (0, 512), .inr (2, 512), .inr (0, 12), .inr (0, 512), .inr (0, 512), .inr (2, 512), .inr (0, 12), .inr (0, 12), .inr (0, 12), .inr (0, 12), .inr (0, 4), .inr (0, 25), .inr (0, 512), .inr (0, 512), .inr (2, 512), .inr (0, 512), .inr (0, 512), .inr (1, 20), .inr (1, 20), .inr (1, 20), .inr (1, 20), .inl (9, [45, 46, 47, 48, 0, 49, 50, 51, 0, 0, 0, 0, 52, 53, 0, 54, 55, 56, 57, 58, 59, 60, 61, 62, 63, 64, 65, 0, 0, 0, 0, 0, 0, 66, 67, 0, 0, 0, 0, 0, 0, 68, 69, 70, 71, 72, 73]), .inr (0, 48), .inr (0, 12), .inr (0, 96), .inr (0, 12), .inr (0, 40), .inr (0, 4), .inr (0, 8), .inr (0, 168), .inr (0, 21), .inr (0, 4), .inr (0, 25), .inr (0, 2048), .inr (0, 2048), .inr (0, 2048), .inr (0, 2048), .inr (0, 2048), .inr (0, 2048), .inr (0, 2048), .inr (0, 13), .inr (0, 12), .inr (0, 12), .inr (0, 8), .inr (0, 8), .inr (1, 14), .inr (1, 14), .inr (0, 4), .inr (0, 4), .inr (0, 32), .inr (1, 80)]
abbrev NC : Nat := 71
def tysL (cy : Nat → ClassId) : List (ClassId × FieldType) := [(cy 0, .int), (cy 1, .long), (cy 2, .boolean), (cy 3, .object "AdderChooser$Shelf")]
theorem cls_ok : ∀ (ci : Nat) (C : String) (T : u_T) (N : Nat), clsL[ci]? = some (C, T, N) → ∃ ty : Nat → FieldType, (∀ w ∈ u_ws C T N, w ∈ WT) ∧ (∀ k, k < N → parseFieldDescriptor (T k).2.2.1 = some (ty k)) ∧ (∀ a, a < N → ∀ b, b < N → a ≠ b → (T a).2.1 ≠ (T b).2.1) := by
  intro ci C T N h
  match ci, h with
  | 0, h => cases h; exact ⟨tyX1, inW inX1 (by decide +kernel), tyX1_ok, nmX1⟩
  | 1, h => cases h; exact ⟨tyX2, inW inX2 (by decide +kernel), tyX2_ok, nmX2⟩
  | 2, h => cases h; exact ⟨tyX3, inW inX3 (by decide +kernel), tyX3_ok, nmX3⟩
  | 3, h => cases h; exact ⟨tyX4, inW inX4 (by decide +kernel), tyX4_ok, nmX4⟩
  | 4, h => cases h; exact ⟨tyX5, inW inX5 (by decide +kernel), tyX5_ok, nmX5⟩
  | 5, h => cases h; exact ⟨tyX6, inW inX6 (by decide +kernel), tyX6_ok, nmX6⟩
  | 6, h => cases h; exact ⟨tyX7, inW inX7 (by decide +kernel), tyX7_ok, nmX7⟩
  | 7, h => cases h; exact ⟨tyX8, inW inX8 (by decide +kernel), tyX8_ok, nmX8⟩
  | 8, h => cases h; exact ⟨tyX9, inW inX9 (by decide +kernel), tyX9_ok, nmX9⟩
  | 9, h => cases h; exact ⟨tyX10, inW inX10 (by decide +kernel), tyX10_ok, nmX10⟩
  | n + 10, h => simp [clsL] at h
-- the cells of a world
def fdv (q : Nat → Nat) (σ : Wd) (k j : Nat) : Nat → Value
  | 0 => .int (σ.1 k j)
  | 1 => .long (σ.2 k j)
  | 2 => .int (σ.1 k j)
  | r + 3 => .ref (q r)
def fvs (q : Nat → Nat) (σ : Wd) (k : Nat) : Nat → List Nat → List Value
  | _, [] => []
  | j, d :: ds => fdv q σ k j d :: fvs q σ k (j + 1) ds
def celle (q : Nat → Nat) (cy : Nat → ClassId) (σ : Wd) (k : Nat) : ShE → va_E
  | .inl (ci, fds) => .inr (ci, fvs q σ k 0 fds)
  | .inr (0, n) => .inl (cy 0, n, .inl (σ.1 k))
  | .inr (1, n) => .inl (cy 1, n, .inr (.inl (σ.2 k)))
  | .inr (2, n) => .inl (cy 2, n, .inl (σ.1 k))
  | .inr (_ + 3, n) => .inl (cy 3, n, .inr (.inr (.inr (.inr (fun j => some (q (9 + j)))))))
def wl (q : Nat → Nat) (cy : Nat → ClassId) (σ : Wd) : Nat → List ShE → va_W
  | _, [] => []
  | k, e :: es => (q k, celle q cy σ k e) :: wl q cy σ (k + 1) es
def wls (q : Nat → Nat) (cy : Nat → ClassId) (σ : Wd) : va_W := wl q cy σ 0 SH
theorem fvs_get (q : Nat → Nat) (σ : Wd) (k : Nat) : ∀ (ds : List Nat) (b i : Nat), (fvs q σ k b ds)[i]? = (ds[i]?).map (fdv q σ k (b + i))
  | [], _, _ => by simp [fvs]
  | d :: ds, b, 0 => by simp [fvs]
  | d :: ds, b, i + 1 => by
    have h := fvs_get q σ k ds (b + 1) i
    simp only [fvs, List.getElem?_cons_succ]
    rw [h, show b + 1 + i = b + (i + 1) by omega]
theorem fvs_len (q : Nat → Nat) (σ : Wd) (k : Nat) : ∀ (ds : List Nat) (b : Nat), (fvs q σ k b ds).length = ds.length
  | [], _ => rfl
  | d :: ds, b => by simp [fvs, fvs_len q σ k ds (b + 1)]
theorem wl_get (q : Nat → Nat) (cy : Nat → ClassId) (σ : Wd) : ∀ (es : List ShE) (b i : Nat), (wl q cy σ b es)[i]? = (es[i]?).map (fun e => (q (b + i), celle q cy σ (b + i) e))
  | [], _, _ => by simp [wl]
  | e :: es, b, 0 => by simp [wl]
  | e :: es, b, i + 1 => by
    have h := wl_get q cy σ es (b + 1) i
    simp only [wl, List.getElem?_cons_succ]
    rw [h, show b + 1 + i = b + (i + 1) by omega]
theorem wls_get (q : Nat → Nat) (cy : Nat → ClassId) (σ : Wd) (i : Nat) : (wls q cy σ)[i]? = (SH[i]?).map (fun e => (q i, celle q cy σ i e)) := by
  unfold wls
  rw [wl_get, Nat.zero_add]
theorem celle_F {q : Nat → Nat} {cy : Nat → ClassId} {σ : Wd} {k n i : Nat} {x : Int32} (h : i ≠ k) (e : ShE) : celle q cy (sF σ k n x) i e = celle q cy σ i e := by
  have h1 : (sF σ k n x).1 i = σ.1 i := by funext b; simp [sF, h]
  have h2 : ∀ (ds : List Nat) (b : Nat), fvs q (sF σ k n x) i b ds = fvs q σ i b ds := by
    intro ds
    induction ds with
    | nil => intro b; rfl
    | cons d ds ih => intro b; rw [fvs, fvs, ih]; congr 1; match d with
      | 0 => show Value.int ((sF σ k n x).1 i b) = _; rw [h1]; rfl
      | 1 => rfl
      | 2 => show Value.int ((sF σ k n x).1 i b) = _; rw [h1]; rfl
      | r + 3 => rfl
  match e with
  | .inl (ci, fds) => show Sum.inr (ci, _) = Sum.inr (ci, _); rw [h2]
  | .inr (0, m) => show Sum.inl (cy 0, m, Sum.inl ((sF σ k n x).1 i)) = _; rw [h1]; rfl
  | .inr (1, m) => rfl
  | .inr (2, m) => show Sum.inl (cy 2, m, Sum.inl ((sF σ k n x).1 i)) = _; rw [h1]; rfl
  | .inr (t + 3, m) => rfl
theorem celle_G {q : Nat → Nat} {cy : Nat → ClassId} {σ : Wd} {k n i : Nat} {x : Int64} (h : i ≠ k) (e : ShE) : celle q cy (sG σ k n x) i e = celle q cy σ i e := by
  have h1 : (sG σ k n x).2 i = σ.2 i := by funext b; simp [sG, h]
  have h2 : ∀ (ds : List Nat) (b : Nat), fvs q (sG σ k n x) i b ds = fvs q σ i b ds := by
    intro ds
    induction ds with
    | nil => intro b; rfl
    | cons d ds ih => intro b; rw [fvs, fvs, ih]; congr 1; match d with
      | 0 => rfl
      | 1 => show Value.long ((sG σ k n x).2 i b) = _; rw [h1]; rfl
      | 2 => rfl
      | r + 3 => rfl
  match e with
  | .inl (ci, fds) => show Sum.inr (ci, _) = Sum.inr (ci, _); rw [h2]
  | .inr (0, m) => rfl
  | .inr (1, m) => show Sum.inl (cy 1, m, Sum.inr (Sum.inl ((sG σ k n x).2 i))) = _; rw [h1]; rfl
  | .inr (2, m) => rfl
  | .inr (t + 3, m) => rfl
theorem wls_set {q : Nat → Nat} {cy : Nat → ClassId} {σ τ : Wd} {k : Nat} {e : ShE} {w : va_E} (hs : SH[k]? = some e) (ho : ∀ i, i ≠ k → ∀ e, celle q cy τ i e = celle q cy σ i e) (hk : celle q cy τ k e = w) : (wls q cy σ).set k (q k, w) = wls q cy τ := by
  apply List.ext_getElem?
  intro i
  rw [List.getElem?_set, wls_get, wls_get]
  by_cases hi : k = i
  · subst hi
    have hl : k < (wls q cy σ).length := by
      have h := wls_get q cy σ k
      rw [hs] at h
      exact (List.getElem?_eq_some_iff.mp h).1
    rw [if_pos rfl, if_pos hl, hs]
    simp [hk]
  · rw [if_neg hi]
    cases hh : SH[i]? with
    | none => rfl
    | some e2 => simp [ho i (Ne.symm hi)]
-- locals
def cv (q : Nat → Nat) : Value → Value
  | .ref k => .ref (q k)
  | v => v
def cat2 : Value → Bool
  | .long _ => true
  | .double _ => true
  | _ => false
theorem cv_cat (q : Nat → Nat) (v : Value) : (cv q v).category = v.category := by cases v <;> rfl
theorem cat2_iff (v : Value) : cat2 v = true ↔ v.category = 2 := by cases v <;> simp [cat2, Value.category]
def st1 : List Value → Nat → Value → List Value
  | [], _, _ => []
  | _ :: vs, 0, v => v :: vs
  | w :: vs, i + 1, v => cond (Nat.beq i 0 && cat2 w) .null w :: st1 vs i v
def st2 : List Value → Nat → Value → List Value
  | [], _, _ => []
  | _ :: [], 0, v => [v]
  | _ :: _ :: vs, 0, v => v :: .null :: vs
  | w :: vs, i + 1, v => cond (Nat.beq i 0 && cat2 w) .null w :: st2 vs i v
theorem st1_get : ∀ (vs : List Value) (i : Nat) (v : Value) (j : Nat) (w : Value), (st1 vs i v)[j]? = some w → w ≠ .null → (j = i ∧ w = v) ∨ (j ≠ i ∧ vs[j]? = some w ∧ ¬ (j + 1 = i ∧ w.category = 2))
  | [], i, v, j, w, h, hn => by simp [st1] at h
  | a :: vs, 0, v, 0, w, h, hn => by simp [st1] at h; exact Or.inl ⟨rfl, h.symm⟩
  | a :: vs, 0, v, j + 1, w, h, hn => by simp [st1] at h; exact Or.inr ⟨by omega, by simpa using h, by omega⟩
  | a :: vs, i + 1, v, 0, w, h, hn => by
    simp only [st1, List.getElem?_cons_zero, Option.some.injEq] at h
    cases hb : (Nat.beq i 0 && cat2 a) with
    | true => rw [hb] at h; exact absurd h.symm hn
    | false =>
      rw [hb] at h
      refine Or.inr ⟨by omega, by simpa using h, fun hx => ?_⟩
      have h1 : i = 0 := by omega
      have h2 : a = w := h
      subst h1; subst h2
      rw [(cat2_iff a).mpr hx.2] at hb
      simp at hb
  | a :: vs, i + 1, v, j + 1, w, h, hn => by
    simp only [st1, List.getElem?_cons_succ] at h
    rcases st1_get vs i v j w h hn with ⟨h1, h2⟩ | ⟨h1, h2, h3⟩
    · exact Or.inl ⟨by omega, h2⟩
    · exact Or.inr ⟨by omega, by simpa using h2, by omega⟩
theorem st2_get : ∀ (vs : List Value) (i : Nat) (v : Value) (j : Nat) (w : Value), (st2 vs i v)[j]? = some w → w ≠ .null → (j = i ∧ w = v) ∨ (j ≠ i ∧ j ≠ i + 1 ∧ vs[j]? = some w ∧ ¬ (j + 1 = i ∧ w.category = 2))
  | [], i, v, j, w, h, hn => by simp [st2] at h
  | [a], 0, v, j, w, h, hn => by
    match j, h with
    | 0, h => simp [st2] at h; exact Or.inl ⟨rfl, h.symm⟩
    | j + 1, h => simp [st2] at h
  | a :: b :: vs, 0, v, j, w, h, hn => by
    match j, h with
    | 0, h => simp [st2] at h; exact Or.inl ⟨rfl, h.symm⟩
    | 1, h => simp [st2] at h; exact absurd h.symm hn
    | j + 2, h => simp [st2] at h; exact Or.inr ⟨by omega, by omega, by simpa using h, by omega⟩
  | a :: vs, i + 1, v, 0, w, h, hn => by
    simp only [st2, List.getElem?_cons_zero, Option.some.injEq] at h
    cases hb : (Nat.beq i 0 && cat2 a) with
    | true => rw [hb] at h; exact absurd h.symm hn
    | false =>
      rw [hb] at h
      refine Or.inr ⟨by omega, by omega, by simpa using h, fun hx => ?_⟩
      have h1 : i = 0 := by omega
      have h2 : a = w := h
      subst h1; subst h2
      rw [(cat2_iff a).mpr hx.2] at hb
      simp at hb
  | a :: vs, i + 1, v, j + 1, w, h, hn => by
    simp only [st2, List.getElem?_cons_succ] at h
    rcases st2_get vs i v j w h hn with ⟨h1, h2⟩ | ⟨h1, h2, h3, h4⟩
    · exact Or.inl ⟨by omega, h2⟩
    · exact Or.inr ⟨by omega, by omega, by simpa using h3, by omega⟩
def LH (q : Nat → Nat) (ls : Array Slot) (nL : Nat) (vs : List Value) : Prop := ls.size = nL ∧ lv_wf ls ∧ ∀ (i : Nat) (v : Value), vs[i]? = some v → v ≠ .null → ls[i]? = some (.val (cv q v))
def lhl (q : Nat → Nat) (vs : List Value) : List (Nat × Value) := (List.range vs.length).filterMap (fun i => match vs[i]? with | some v => if v = .null then none else some (i, cv q v) | none => none)
theorem lhl_mem {q : Nat → Nat} {vs : List Value} {z : Nat × Value} : z ∈ lhl q vs ↔ ∃ v, vs[z.1]? = some v ∧ v ≠ .null ∧ z.2 = cv q v := by
  unfold lhl
  rw [List.mem_filterMap]
  constructor
  · rintro ⟨i, -, hi⟩
    cases hv : vs[i]? with
    | none => rw [hv] at hi; cases hi
    | some v =>
      rw [hv] at hi
      dsimp only at hi
      by_cases hn : v = .null
      · rw [if_pos hn] at hi; cases hi
      · rw [if_neg hn] at hi
        cases hi
        exact ⟨v, hv, hn, rfl⟩
  · rintro ⟨v, h1, h2, h3⟩
    refine ⟨z.1, List.mem_range.mpr (List.getElem?_eq_some_iff.mp h1).1, ?_⟩
    rw [h1]
    dsimp only
    rw [if_neg h2, ← h3]
theorem LH.has {q : Nat → Nat} {ls : Array Slot} {nL : Nat} {vs : List Value} (h : LH q ls nL vs) : lv_has ls nL (lhl q vs) := ⟨h.1, h.2.1, fun z hz => by
  obtain ⟨v, h1, h2, h3⟩ := lhl_mem.mp hz
  rw [h3]
  exact h.2.2 z.1 v h1 h2⟩
theorem LH.s1 {q : Nat → Nat} {ls' : Array Slot} {nL i : Nat} {vs : List Value} {v : Value} (h : lv_has ls' nL ((i, cv q v) :: (lhl q vs).filter (fun z => !(z.1 == i) && !(z.1 + 1 == i && z.2.category == 2)))) : LH q ls' nL (st1 vs i v) := by
  refine ⟨h.1, h.2.1, fun j w hj hn => ?_⟩
  rcases st1_get vs i v j w hj hn with ⟨rfl, rfl⟩ | ⟨h1, h2, h3⟩
  · exact h.2.2 (j, cv q w) List.mem_cons_self
  · refine h.2.2 (j, cv q w) (List.mem_cons_of_mem _ (List.mem_filter.mpr ⟨lhl_mem.mpr ⟨w, h2, hn, rfl⟩, ?_⟩))
    simp only [Bool.and_eq_true, Bool.not_eq_true', beq_eq_false_iff_ne, ne_eq, Bool.and_eq_false_imp, beq_iff_eq, cv_cat]
    exact ⟨h1, fun a b => h3 ⟨a, b⟩⟩
theorem LH.s2 {q : Nat → Nat} {ls' : Array Slot} {nL i : Nat} {vs : List Value} {v : Value} (h : lv_has ls' nL ((i, cv q v) :: (lhl q vs).filter (fun z => !(z.1 == i) && (!(z.1 == i + 1) && !(z.1 + 1 == i && z.2.category == 2))))) : LH q ls' nL (st2 vs i v) := by
  refine ⟨h.1, h.2.1, fun j w hj hn => ?_⟩
  rcases st2_get vs i v j w hj hn with ⟨rfl, rfl⟩ | ⟨h1, h2, h3, h4⟩
  · exact h.2.2 (j, cv q w) List.mem_cons_self
  · refine h.2.2 (j, cv q w) (List.mem_cons_of_mem _ (List.mem_filter.mpr ⟨lhl_mem.mpr ⟨w, h3, hn, rfl⟩, ?_⟩))
    simp only [Bool.and_eq_true, Bool.not_eq_true', beq_eq_false_iff_ne, ne_eq, Bool.and_eq_false_imp, beq_iff_eq, cv_cat]
    exact ⟨h1, h2, fun a b => h4 ⟨a, b⟩⟩
/-- the first locals of a call -/
def lay : List Value → List Value
  | [] => []
  | v :: vs => cond (cat2 v) (v :: .null :: lay vs) (v :: lay vs)
theorem lay_get (q : Nat → Nat) : ∀ (as : List Value) (b j : Nat) (w : Value), (lay as)[j]? = some w → w ≠ .null → (b + j, cv q w) ∈ lv_args b (as.map (cv q))
  | [], b, j, w, h, hn => by simp [lay] at h
  | v :: vs, b, j, w, h, hn => by
    cases hc : cat2 v with
    | true =>
      have hc2 := (cat2_iff v).mp hc
      simp only [lay, hc, cond_true] at h
      simp only [List.map_cons, lv_args, cv_cat, hc2, if_true]
      match j, h with
      | 0, h => simp at h; subst h; simp
      | 1, h => simp at h; exact absurd h.symm hn
      | j + 2, h =>
        have h' : (lay vs)[j]? = some w := by simpa using h
        have := lay_get q vs (b + 2) j w h' hn
        rw [show b + (j + 2) = b + 2 + j by omega]
        exact List.mem_cons_of_mem _ this
    | false =>
      have hc2 : ¬ v.category = 2 := fun z => by rw [(cat2_iff v).mpr z] at hc; cases hc
      simp only [lay, hc, cond_false] at h
      simp only [List.map_cons, lv_args, cv_cat, hc2, if_false]
      match j, h with
      | 0, h => simp at h; subst h; simp
      | j + 1, h =>
        have h' : (lay vs)[j]? = some w := by simpa using h
        have := lay_get q vs (b + 1) j w h' hn
        rw [show b + (j + 1) = b + 1 + j by omega]
        exact List.mem_cons_of_mem _ this
def pad : Nat → List Value → List Value
  | 0, vs => vs
  | n + 1, [] => .null :: pad n []
  | n + 1, v :: vs => v :: pad n vs
theorem pad_get : ∀ (n : Nat) (vs : List Value) (j : Nat) (w : Value), (pad n vs)[j]? = some w → w ≠ .null → vs[j]? = some w
  | 0, vs, j, w, h, hn => h
  | n + 1, [], 0, w, h, hn => by simp [pad] at h; exact absurd h.symm hn
  | n + 1, [], j + 1, w, h, hn => by
    simp only [pad, List.getElem?_cons_succ] at h
    have := pad_get n [] j w h hn
    simp at this
  | n + 1, v :: vs, 0, w, h, hn => by simpa [pad] using h
  | n + 1, v :: vs, j + 1, w, h, hn => by
    simp only [pad, List.getElem?_cons_succ] at h
    simpa using pad_get n vs j w h hn
theorem LH.entry {q : Nat → Nat} {as : List Value} {n : Nat} {ls : Array Slot} (h : lv_has ls n (lv_args 0 (as.map (cv q)))) : LH q ls n (pad n (lay as)) := by
  refine ⟨h.1, h.2.1, fun j w hj hn => ?_⟩
  have h1 := lay_get q as 0 j w (pad_get n _ j w hj hn) hn
  rw [Nat.zero_add] at h1
  exact h.2.2 (j, cv q w) h1
/-- some places forgotten -/
def msk : List Bool → List Value → List Value
  | b :: bs, v :: vs => cond b v .null :: msk bs vs
  | _, _ => []
theorem msk_get : ∀ (bs : List Bool) (vs : List Value) (j : Nat) (w : Value), (msk bs vs)[j]? = some w → w ≠ .null → vs[j]? = some w
  | [], vs, j, w, h, hn => by simp [msk] at h
  | b :: bs, [], j, w, h, hn => by simp [msk] at h
  | b :: bs, v :: vs, 0, w, h, hn => by
    simp only [msk, List.getElem?_cons_zero, Option.some.injEq] at h
    cases b with
    | true => simpa using h
    | false => exact absurd h.symm hn
  | b :: bs, v :: vs, j + 1, w, h, hn => by
    simp only [msk, List.getElem?_cons_succ] at h
    simpa using msk_get bs vs j w h hn
theorem LH.mask {q : Nat → Nat} {ls : Array Slot} {nL : Nat} {vs : List Value} (h : LH q ls nL vs) (bs : List Bool) : LH q ls nL (msk bs vs) := ⟨h.1, h.2.1, fun j w hj hn => h.2.2 j w (msk_get bs vs j w hj hn) hn⟩
