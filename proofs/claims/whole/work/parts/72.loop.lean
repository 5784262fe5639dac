section
/-! The law's loop: it ends with 1, from any world where the relation holds. -/
theorem lw_lt {L i : Nat} (hL : L ≤ 3072) (hi : i < 4000) : nI L - 6 < nI i ↔ L < i + 6 := by
  by_cases h : L < 6
  · have : ∀ k, k < 6 → (nI k - 6).toInt < 0 := by decide +kernel
    have h1 := this L h
    rw [fa_lt, nI_toInt (by omega)]
    omega
  · rw [show nI L - 6 = nI (L - 6) from pk_sub (b := 6) (by omega), nLt (by omega) (by omega)]
    omega
theorem law_go (N : Nat) (hN : 2048 < N) {L : Nat} {xs : Nat → Int32} (hL : L ≤ 3072) : ∀ (c fu i : Nat) (σ : Wd), SRel σ → i ≤ L → L < i + 6 * c + 6 → c < fu → ∃ τ, f_L_law_L18 N (L + 1, xs) (f_L_law_J1337 N (L + 1, xs)) fu (nI i) σ = some (1, τ) := by
  intro c
  induction c with
  | zero =>
    intro fu i σ R hi hc hf
    obtain ⟨fu, rfl⟩ : ∃ f, fu = f + 1 := ⟨fu - 1, by omega⟩
    refine ⟨σ, ?_⟩
    rw [f_L_law_L18]
    show (if nI L - 6 < nI i then _ else _) = _
    rw [if_pos ((lw_lt hL (by omega)).mpr (by omega))]
    rfl
  | succ c ih =>
    intro fu i σ R hi hc hf
    obtain ⟨fu, rfl⟩ : ∃ f, fu = f + 1 := ⟨fu - 1, by omega⟩
    rw [f_L_law_L18]
    show ∃ τ, (if nI L - 6 < nI i then _ else _) = _
    by_cases hx : L < i + 6
    · refine ⟨σ, ?_⟩
      rw [if_pos ((lw_lt hL (by omega)).mpr hx)]
      rfl
    · rw [if_neg (fun z => hx ((lw_lt hL (by omega)).mp z)), xsc_n (show i < L by omega) (by omega), obind]
      have hgo : ∀ τ, SRel τ → ∃ υ, f_L_law_L18 N (L + 1, xs) (f_L_law_J1337 N (L + 1, xs)) fu (nI (i + 6)) τ = some (1, υ) := fun τ R2 => ih fu (i + 6) τ R2 (by omega) (by omega) (by omega)
      generalize f_L_law_L18 N (L + 1, xs) (f_L_law_J1337 N (L + 1, xs)) fu = KB at hgo
      generalize f_L_law_J1337 N (L + 1, xs) = KO
      generalize xs i &&& (63 : Int32) = o
      by_cases h0 : o = 0
      · rw [if_pos h0]
        obtain ⟨τ, R2, e⟩ := j_feed N hN R (xs := xs) (show i + 6 ≤ L by omega) hL KB KO
        rw [e]; exact hgo τ R2
      rw [if_neg h0]
      by_cases h1 : o = 1
      · rw [if_pos h1]
        obtain ⟨τ, R2, e⟩ := j_read N hN R (xs := xs) (show i + 6 ≤ L by omega) hL KB KO
        rw [e]; exact hgo τ R2
      rw [if_neg h1]
      by_cases h2 : o = 2
      · rw [if_pos h2]
        obtain ⟨τ, R2, e⟩ := j_find N hN R (xs := xs) (show i + 6 ≤ L by omega) hL KB KO
        rw [e]; exact hgo τ R2
      rw [if_neg h2]
      by_cases h3 : o = 3
      · rw [if_pos h3]
        obtain ⟨τ, R2, e⟩ := j_forget N hN R (xs := xs) (show i + 6 ≤ L by omega) hL KB KO
        rw [e]; exact hgo τ R2
      rw [if_neg h3]
      by_cases h4 : o = 4
      · rw [if_pos h4]
        obtain ⟨τ, R2, e⟩ := j_plan N hN R (xs := xs) (show i + 6 ≤ L by omega) hL KB KO
        rw [e]; exact hgo τ R2
      rw [if_neg h4]
      by_cases h5 : o = 5
      · rw [if_pos h5]
        obtain ⟨τ, R2, e⟩ := j_name N hN R (xs := xs) (show i + 6 ≤ L by omega) hL KB KO
        rw [e]; exact hgo τ R2
      rw [if_neg h5]
      by_cases h6 : o = 6
      · rw [if_pos h6]
        obtain ⟨τ, R2, e⟩ := j_delay N hN R (xs := xs) (show i + 6 ≤ L by omega) hL KB KO
        rw [e]; exact hgo τ R2
      rw [if_neg h6]
      by_cases h7 : o = 7
      · rw [if_pos h7]
        obtain ⟨τ, R2, e⟩ := j_arrival N hN R (xs := xs) (show i + 6 ≤ L by omega) hL KB KO
        rw [e]; exact hgo τ R2
      rw [if_neg h7]
      by_cases h8 : o = 8
      · rw [if_pos h8]
        obtain ⟨τ, R2, e⟩ := j_arrives N hN R (xs := xs) (show i + 6 ≤ L by omega) hL KB KO
        rw [e]; exact hgo τ R2
      rw [if_neg h8]
      by_cases h9 : o = 9
      · rw [if_pos h9]
        obtain ⟨τ, R2, e⟩ := j_gates N hN R (xs := xs) (show i + 6 ≤ L by omega) hL KB KO
        rw [e]; exact hgo τ R2
      rw [if_neg h9]
      by_cases h10 : o = 10
      · rw [if_pos h10]
        obtain ⟨τ, R2, e⟩ := j_latest N hN R (xs := xs) (show i + 6 ≤ L by omega) hL KB KO
        rw [e]; exact hgo τ R2
      rw [if_neg h10]
      by_cases h11 : o = 11
      · rw [if_pos h11]
        obtain ⟨τ, R2, e⟩ := j_deep N hN R (xs := xs) (show i + 6 ≤ L by omega) hL KB KO
        rw [e]; exact hgo τ R2
      rw [if_neg h11]
      by_cases h12 : o = 12
      · rw [if_pos h12]
        obtain ⟨τ, R2, e⟩ := j_hangs N hN R (xs := xs) (show i + 6 ≤ L by omega) hL KB KO
        rw [e]; exact hgo τ R2
      rw [if_neg h12]
      by_cases h13 : o = 13
      · rw [if_pos h13]
        obtain ⟨τ, R2, e⟩ := j_times N hN R (xs := xs) (show i + 6 ≤ L by omega) hL KB KO
        rw [e]; exact hgo τ R2
      rw [if_neg h13]
      by_cases h14 : o = 14
      · rw [if_pos h14]
        obtain ⟨τ, R2, e⟩ := j_adds N hN R (xs := xs) (show i + 6 ≤ L by omega) hL KB KO
        rw [e]; exact hgo τ R2
      rw [if_neg h14]
      by_cases h15 : o = 15
      · rw [if_pos h15]
        obtain ⟨τ, R2, e⟩ := j_settles N hN R (xs := xs) (show i + 6 ≤ L by omega) hL KB KO
        rw [e]; exact hgo τ R2
      rw [if_neg h15]
      by_cases h16 : o = 16
      · rw [if_pos h16]
        obtain ⟨τ, R2, e⟩ := j_slowest N hN R (xs := xs) (show i + 6 ≤ L by omega) hL KB KO
        rw [e]; exact hgo τ R2
      rw [if_neg h16]
      by_cases h17 : o = 17
      · rw [if_pos h17]
        obtain ⟨τ, R2, e⟩ := j_intime N hN R (xs := xs) (show i + 6 ≤ L by omega) hL KB KO
        rw [e]; exact hgo τ R2
      rw [if_neg h17]
      by_cases h18 : o = 18
      · rw [if_pos h18]
        obtain ⟨τ, R2, e⟩ := j_shared N hN R (xs := xs) (show i + 6 ≤ L by omega) hL KB KO
        rw [e]; exact hgo τ R2
      rw [if_neg h18]
      by_cases h19 : o = 19
      · rw [if_pos h19]
        obtain ⟨τ, R2, e⟩ := j_alike N hN R (xs := xs) (show i + 6 ≤ L by omega) hL KB KO
        rw [e]; exact hgo τ R2
      rw [if_neg h19]
      by_cases h20 : o = 20
      · rw [if_pos h20]
        obtain ⟨τ, R2, e⟩ := j_known N hN R (xs := xs) (show i + 6 ≤ L by omega) hL KB KO
        rw [e]; exact hgo τ R2
      rw [if_neg h20]
      by_cases h21 : o = 21
      · rw [if_pos h21]
        obtain ⟨τ, R2, e⟩ := j_choose N hN R (xs := xs) (show i + 6 ≤ L by omega) hL KB KO
        rw [e]; exact hgo τ R2
      rw [if_neg h21]
      by_cases h22 : o = 22
      · rw [if_pos h22]
        obtain ⟨τ, R2, e⟩ := j_chosen N hN R (xs := xs) (show i + 6 ≤ L by omega) hL KB KO
        rw [e]; exact hgo τ R2
      rw [if_neg h22]
      by_cases h23 : o = 23
      · rw [if_pos h23]
        obtain ⟨τ, R2, e⟩ := j_longest N hN R (xs := xs) (show i + 6 ≤ L by omega) hL KB KO
        rw [e]; exact hgo τ R2
      rw [if_neg h23]
      by_cases h24 : o = 24
      · rw [if_pos h24]
        obtain ⟨τ, R2, e⟩ := j_runs N hN R (xs := xs) (show i + 6 ≤ L by omega) hL KB KO
        rw [e]; exact hgo τ R2
      rw [if_neg h24]
      by_cases h25 : o = 25
      · rw [if_pos h25]
        obtain ⟨τ, R2, e⟩ := j_shelve N hN R (xs := xs) (show i + 6 ≤ L by omega) hL KB KO
        rw [e]; exact hgo τ R2
      rw [if_neg h25]
      by_cases h26 : o = 26
      · rw [if_pos h26]
        obtain ⟨τ, R2, e⟩ := j_taken N hN R (xs := xs) (show i + 6 ≤ L by omega) hL KB KO
        rw [e]; exact hgo τ R2
      rw [if_neg h26]
      by_cases h27 : o = 27
      · rw [if_pos h27]
        obtain ⟨τ, R2, e⟩ := j_row N hN R (xs := xs) (show i + 6 ≤ L by omega) hL KB KO
        rw [e]; exact hgo τ R2
      rw [if_neg h27]
      by_cases h28 : o = 28
      · rw [if_pos h28]
        obtain ⟨τ, R2, e⟩ := j_put N hN R (xs := xs) (show i + 6 ≤ L by omega) hL KB KO
        rw [e]; exact hgo τ R2
      rw [if_neg h28]
      by_cases h29 : o = 29
      · rw [if_pos h29]
        obtain ⟨τ, R2, e⟩ := j_get N hN R (xs := xs) (show i + 6 ≤ L by omega) hL KB KO
        rw [e]; exact hgo τ R2
      rw [if_neg h29]
      by_cases h30 : o = 30
      · rw [if_pos h30]
        obtain ⟨τ, R2, e⟩ := j_into N hN R (xs := xs) (show i + 6 ≤ L by omega) hL KB KO
        rw [e]; exact hgo τ R2
      rw [if_neg h30]
      by_cases h31 : o = 31
      · rw [if_pos h31]
        obtain ⟨τ, R2, e⟩ := j_from N hN R (xs := xs) (show i + 6 ≤ L by omega) hL KB KO
        rw [e]; exact hgo τ R2
      rw [if_neg h31]
      by_cases h32 : o = 32
      · rw [if_pos h32]
        obtain ⟨τ, R2, e⟩ := j_count N hN R (xs := xs) (show i + 6 ≤ L by omega) hL KB KO
        rw [e]; exact hgo τ R2
      rw [if_neg h32]
      rw [show nI i + 6 = nI (i + 6) from nAddR i 6]
      exact hgo σ R
theorem law_of (N : Nat) (hN : 2048 < N) {σ : Wd} (R : SRel σ) (L : Nat) (xs : Nat → Int32) (hL : L ≤ 3072) : ∃ τ, f_L_law N (L + 1, xs) σ = some (1, τ) := law_go N hN hL 600 N 0 σ R (Nat.zero_le _) (by omega) (by omega)
end
