section
/-! The longest carry. -/
section RUNS
variable {G Q : Nat → Bool} {c : Bool}
def isB (G : Nat → Bool) (c : Bool) : Nat → Bool
  | 0 => c
  | B + 1 => G B
def rlF (Q : Nat → Bool) : Nat → Nat → Nat
  | 0, _ => 0
  | f + 1, B => if Q B = true then rlF Q f (B + 1) + 1 else 0
theorem rlF_le (Q : Nat → Bool) : ∀ f B, rlF Q f B ≤ f
  | 0, B => Nat.le_refl _
  | f + 1, B => by
    have := rlF_le Q f (B + 1)
    unfold rlF; split <;> omega
theorem rlF_s (Q : Nat → Bool) : ∀ f B, rlF Q (f + 1) B = if rlF Q f B = f ∧ Q (B + f) = true then rlF Q f B + 1 else rlF Q f B
  | 0, B => by
    unfold rlF
    by_cases h : Q B = true
    · rw [if_pos h, if_pos ⟨rfl, h⟩]; rfl
    · rw [if_neg h, if_neg (fun z => h z.2)]
  | f + 1, B => by
    have ih := rlF_s Q f (B + 1)
    rw [rlF]
    rw [show rlF Q (f + 1) B = if Q B = true then rlF Q f (B + 1) + 1 else 0 from rfl]
    by_cases h : Q B = true
    · rw [if_pos h, if_pos h, ih, show B + 1 + f = B + (f + 1) by omega]
      by_cases h2 : rlF Q f (B + 1) = f ∧ Q (B + (f + 1)) = true
      · rw [if_pos h2, if_pos ⟨by omega, h2.2⟩]
      · rw [if_neg h2, if_neg (fun z => h2 ⟨by omega, z.2⟩)]
    · rw [if_neg h, if_neg h, if_neg (fun z => by omega)]
def rl (Q : Nat → Bool) (i B : Nat) : Nat := rlF Q (i - B) B
theorem rl_le (Q : Nat → Bool) (i B : Nat) : rl Q i B ≤ i - B := rlF_le Q _ _
theorem rl_s (Q : Nat → Bool) {i B : Nat} (h : B ≤ i) : rl Q (i + 1) B = if rl Q i B = i - B ∧ Q i = true then rl Q i B + 1 else rl Q i B := by
  unfold rl
  rw [show i + 1 - B = (i - B) + 1 by omega, rlF_s, show B + (i - B) = i by omega]
theorem rl_all (Q : Nat → Bool) {i B : Nat} (h : rl Q i B = i - B) : ∀ j, B ≤ j → j < i → Q j = true := by
  have key : ∀ f B, rlF Q f B = f → ∀ j, B ≤ j → j < B + f → Q j = true := by
    intro f
    induction f with
    | zero => intro B _ j h1 h2; omega
    | succ f ih =>
      intro B h j h1 h2
      unfold rlF at h
      by_cases hq : Q B = true
      · rw [if_pos hq] at h
        by_cases hj : j = B
        · rw [hj]; exact hq
        · exact ih (B + 1) (by omega) j (by omega) (by omega)
      · rw [if_neg hq] at h; omega
  intro j h1 h2
  exact key (i - B) B h j h1 (by omega)
def vB (G Q : Nat → Bool) (c : Bool) (i B : Nat) : Nat := if isB G c B = true then rl Q i B + 1 else 0
/-- the greatest of the first n, and the place of the first that has it -/
def CH (v : Nat → Nat) (n m f : Nat) : Prop := (∀ B, B < n → v B ≤ m) ∧ ((m = 0 ∧ f = 0) ∨ (0 < m ∧ ∃ B, B < n ∧ v B = m ∧ f = B - 1 ∧ ∀ B', B' < B → v B' < m))
theorem CH.uniq {v : Nat → Nat} {n m f m' f' : Nat} (h : CH v n m f) (h' : CH v n m' f') : m = m' ∧ f = f' := by
  obtain ⟨a1, a2⟩ := h
  obtain ⟨b1, b2⟩ := h'
  rcases a2 with ⟨rfl, rfl⟩ | ⟨p, B, q1, q2, q3, q4⟩
  · rcases b2 with ⟨rfl, rfl⟩ | ⟨p, B, q1, q2, q3, q4⟩
    · exact ⟨rfl, rfl⟩
    · have := a1 B q1; omega
  · rcases b2 with ⟨rfl, rfl⟩ | ⟨p', B', r1, r2, r3, r4⟩
    · have := b1 B q1; omega
    · have h1 := b1 B q1
      have h2 := a1 B' r1
      have hm : m = m' := by omega
      subst hm
      refine ⟨rfl, ?_⟩
      have hB : B = B' := by
        by_cases c1 : B < B'
        · have := r4 B c1; omega
        · by_cases c2 : B' < B
          · have := q4 B' c2; omega
          · omega
      rw [q3, r3, hB]
theorem CH.snoc {v : Nat → Nat} {n m f : Nat} (h : CH v n m f) : CH v (n + 1) (if m < v n then v n else m) (if m < v n then n - 1 else f) := by
  obtain ⟨a1, a2⟩ := h
  by_cases hc : m < v n
  · rw [if_pos hc, if_pos hc]
    refine ⟨fun B hB => ?_, Or.inr ⟨by omega, n, by omega, rfl, rfl, fun B' hB' => by have := a1 B' hB'; omega⟩⟩
    by_cases hBn : B = n
    · rw [hBn]; exact Nat.le_refl _
    · have := a1 B (by omega); omega
  · rw [if_neg hc, if_neg hc]
    refine ⟨fun B hB => ?_, ?_⟩
    · by_cases hBn : B = n
      · rw [hBn]; omega
      · exact a1 B (by omega)
    · rcases a2 with q | ⟨p, B, q1, q2, q3, q4⟩
      · exact Or.inl q
      · exact Or.inr ⟨p, B, by omega, q2, q3, q4⟩
/-- what the class holds behind i bits: the going run, its beginning, the best -/
def CL (G Q : Nat → Bool) (c : Bool) (i a bg m f : Nat) : Prop := CH (vB G Q c i) (i + 1) m f ∧ ((a = 0 ∧ ∀ B, B ≤ i → isB G c B = true → rl Q i B ≠ i - B) ∨ (∃ B, B ≤ i ∧ isB G c B = true ∧ rl Q i B = i - B ∧ a = i - B + 1 ∧ bg = B - 1))
theorem CL.zero : CL G Q c 0 (if c = true then 1 else 0) 0 (if c = true then 1 else 0) 0 := by
  have hv : vB G Q c 0 0 = if c = true then 1 else 0 := by
    show (if c = true then rl Q 0 0 + 1 else 0) = _
    rfl
  refine ⟨⟨fun B hB => by rw [show B = 0 by omega, hv]; exact Nat.le_refl _, ?_⟩, ?_⟩
  · by_cases hc : c = true
    · rw [if_pos hc]; exact Or.inr ⟨by omega, 0, by omega, by rw [hv, if_pos hc], rfl, fun B' h => absurd h (Nat.not_lt_zero _)⟩
    · rw [if_neg hc]; exact Or.inl ⟨rfl, rfl⟩
  · by_cases hc : c = true
    · rw [if_pos hc]; exact Or.inr ⟨0, Nat.le_refl _, hc, rfl, rfl, rfl⟩
    · rw [if_neg hc]; exact Or.inl ⟨rfl, fun B hB h => by rw [show B = 0 by omega] at h; exact absurd h hc⟩
theorem rl_self (Q : Nat → Bool) (i : Nat) : rl Q i i = 0 := by have := rl_le Q i i; omega
theorem vB_keep {i B : Nat} (h : B ≤ i) (hq : ¬ Q i = true) : vB G Q c (i + 1) B = vB G Q c i B := by
  unfold vB
  rw [rl_s Q h, if_neg (show ¬ (rl Q i B = i - B ∧ Q i = true) from fun z => hq z.2)]
theorem CL.step (hGQ : ∀ j, ¬ (G j = true ∧ Q j = true)) {i a bg m f : Nat} (h : CL G Q c i a bg m f) :
    CL G Q c (i + 1) (if G i = true then 1 else if Q i = true then (if a = 0 then 0 else a + 1) else 0) (if G i = true then i else bg)
      (if m < (if G i = true then 1 else if Q i = true then (if a = 0 then 0 else a + 1) else 0) then (if G i = true then 1 else if Q i = true then (if a = 0 then 0 else a + 1) else 0) else m)
      (if m < (if G i = true then 1 else if Q i = true then (if a = 0 then 0 else a + 1) else 0) then (if G i = true then i else bg) else f) := by
  obtain ⟨hC, hA⟩ := h
  by_cases hg : G i = true
  · have hq : ¬ Q i = true := fun z => hGQ i ⟨hg, z⟩
    rw [if_pos hg, if_pos hg]
    have hv : vB G Q c (i + 1) (i + 1) = 1 := by
      unfold vB
      rw [show isB G c (i + 1) = G i from rfl, if_pos hg, rl_self]
    have hC2 : CH (vB G Q c (i + 1)) (i + 1) m f := by
      obtain ⟨a1, a2⟩ := hC
      refine ⟨fun B hB => by rw [vB_keep (by omega) hq]; exact a1 B hB, a2.elim Or.inl (fun ⟨p, B, q1, q2, q3, q4⟩ => Or.inr ⟨p, B, q1, by rw [vB_keep (by omega) hq]; exact q2, q3, fun B' hB' => by rw [vB_keep (by omega) hq]; exact q4 B' hB'⟩)⟩
    have hs := hC2.snoc
    rw [hv] at hs
    refine ⟨hs, Or.inr ⟨i + 1, Nat.le_refl _, hg, by rw [rl_self]; omega, by omega, by omega⟩⟩
  · rw [if_neg hg, if_neg hg]
    have hv : vB G Q c (i + 1) (i + 1) = 0 := by
      unfold vB
      rw [show isB G c (i + 1) = G i from rfl, if_neg hg]
    by_cases hq : Q i = true
    · rw [if_pos hq]
      rcases hA with ⟨a0, hno⟩ | ⟨Bs, b1, b2, b3, b4, b5⟩
      · rw [if_pos a0, if_neg (Nat.not_lt_zero m), if_neg (Nat.not_lt_zero m)]
        have hk : ∀ B, B ≤ i → vB G Q c (i + 1) B = vB G Q c i B := fun B hB => by
          unfold vB
          by_cases hb : isB G c B = true
          · rw [if_pos hb, if_pos hb, rl_s Q hB, if_neg (fun z => hno B hB hb z.1)]
          · rw [if_neg hb, if_neg hb]
        have hC2 : CH (vB G Q c (i + 1)) (i + 1) m f := by
          obtain ⟨a1, a2⟩ := hC
          refine ⟨fun B hB => by rw [hk B (by omega)]; exact a1 B hB, a2.elim Or.inl (fun ⟨p, B, q1, q2, q3, q4⟩ => Or.inr ⟨p, B, q1, by rw [hk B (by omega)]; exact q2, q3, fun B' hB' => by rw [hk B' (by omega)]; exact q4 B' hB'⟩)⟩
        have hs := hC2.snoc
        rw [hv, if_neg (Nat.not_lt_zero m), if_neg (Nat.not_lt_zero m)] at hs
        refine ⟨hs, Or.inl ⟨rfl, fun B hB hb => ?_⟩⟩
        by_cases hBi : B = i + 1
        · rw [hBi] at hb; exact absurd hb hg
        · have h1 := hno B (by omega) hb
          have h2 := rl_le Q i B
          rw [rl_s Q (by omega : B ≤ i), if_neg (fun z => h1 z.1)]
          omega
      · have hone : ∀ B, B ≤ i → isB G c B = true → rl Q i B = i - B → B = Bs := fun B hB hb hr => by
          have hq1 := rl_all Q b3
          have hq2 := rl_all Q hr
          by_cases c1 : B < Bs
          · obtain ⟨k, rfl⟩ : ∃ k, Bs = k + 1 := ⟨Bs - 1, by omega⟩
            exact absurd ⟨b2, hq2 k (by omega) (by omega)⟩ (hGQ k)
          · by_cases c2 : Bs < B
            · obtain ⟨k, rfl⟩ : ∃ k, B = k + 1 := ⟨B - 1, by omega⟩
              exact absurd ⟨hb, hq1 k (by omega) (by omega)⟩ (hGQ k)
            · omega
        have ha0 : a ≠ 0 := by omega
        rw [if_neg ha0]
        have hk : ∀ B, B ≤ i → B ≠ Bs → vB G Q c (i + 1) B = vB G Q c i B := fun B hB hne => by
          unfold vB
          by_cases hb : isB G c B = true
          · rw [if_pos hb, if_pos hb, rl_s Q hB, if_neg (fun z => hne (hone B hB hb z.1))]
          · rw [if_neg hb, if_neg hb]
        have hold : vB G Q c i Bs = a := by unfold vB; rw [if_pos b2, b3, b4]
        have hnew : vB G Q c (i + 1) Bs = a + 1 := by
          unfold vB
          rw [if_pos b2, rl_s Q b1, if_pos ⟨b3, hq⟩, b3, b4]
        -- no run begins behind the going one
        have hlate : ∀ B, B ≤ i → Bs < B → vB G Q c i B = 0 := fun B hB hlt => by
          obtain ⟨k, rfl⟩ : ∃ k, B = k + 1 := ⟨B - 1, by omega⟩
          have := rl_all Q b3 k (by omega) (by omega)
          unfold vB
          rw [show isB G c (k + 1) = G k from rfl, if_neg (fun z => hGQ k ⟨z, this⟩)]
        have hz1 : rl Q i Bs + 1 = i + 1 - Bs := by omega
        have hz2 : a + 1 = i + 1 - Bs + 1 := by omega
        obtain ⟨a1, a2⟩ := hC
        have ham := a1 Bs (by omega)
        rw [hold] at ham
        have hC2 : CH (vB G Q c (i + 1)) (i + 1) (if m < a + 1 then a + 1 else m) (if m < a + 1 then bg else f) := by
          by_cases hc : m < a + 1
          · rw [if_pos hc, if_pos hc]
            refine ⟨fun B hB => ?_, Or.inr ⟨by omega, Bs, by omega, hnew, b5, fun B' hB' => ?_⟩⟩
            · by_cases hBs : B = Bs
              · rw [hBs, hnew]; exact Nat.le_refl _
              · rw [hk B (by omega) hBs]; have := a1 B hB; omega
            · rw [hk B' (by omega) (by omega)]; have := a1 B' (by omega); omega
          · rw [if_neg hc, if_neg hc]
            refine ⟨fun B hB => ?_, ?_⟩
            · by_cases hBs : B = Bs
              · rw [hBs, hnew]; omega
              · rw [hk B (by omega) hBs]; exact a1 B hB
            · rcases a2 with q | ⟨p, B, q1, q2, q3, q4⟩
              · omega
              · refine Or.inr ⟨p, B, q1, ?_, q3, fun B' hB' => ?_⟩
                · by_cases hBs : B = Bs
                  · rw [hBs, hold] at q2; omega
                  · rw [hk B (by omega) hBs]; exact q2
                · by_cases hBs : B' = Bs
                  · have hz := hlate B (by omega) (by omega)
                    omega
                  · rw [hk B' (by omega) hBs]; exact q4 B' hB'
        have hs := hC2.snoc
        rw [hv, if_neg (Nat.not_lt_zero _), if_neg (Nat.not_lt_zero _)] at hs
        exact ⟨hs, Or.inr ⟨Bs, Nat.le_succ_of_le b1, b2, by rw [rl_s Q b1, if_pos ⟨b3, hq⟩]; exact hz1, hz2, b5⟩⟩
    · rw [if_neg hq, if_neg (Nat.not_lt_zero m), if_neg (Nat.not_lt_zero m)]
      have hC2 : CH (vB G Q c (i + 1)) (i + 1) m f := by
        obtain ⟨a1, a2⟩ := hC
        refine ⟨fun B hB => by rw [vB_keep (by omega) hq]; exact a1 B hB, a2.elim Or.inl (fun ⟨p, B, q1, q2, q3, q4⟩ => Or.inr ⟨p, B, q1, by rw [vB_keep (by omega) hq]; exact q2, q3, fun B' hB' => by rw [vB_keep (by omega) hq]; exact q4 B' hB'⟩)⟩
      have hs := hC2.snoc
      rw [hv, if_neg (Nat.not_lt_zero m), if_neg (Nat.not_lt_zero m)] at hs
      refine ⟨hs, Or.inl ⟨rfl, fun B hB hb => ?_⟩⟩
      by_cases hBi : B = i + 1
      · rw [hBi] at hb; exact absurd hb hg
      · have h2 := rl_le Q i B
        rw [rl_s Q (by omega : B ≤ i), if_neg (fun z => hq z.2)]
        omega
end RUNS
end
