section
/-! The law's loop: each step keeps the relation. -/
theorem xsc_n {L i : Nat} {xs : Nat → Int32} (h : i < L) (hL : L < 2147483648) : xsc (L + 1, xs) (nI i) = some (xs i) := by
  unfold xsc
  rw [nI_clamp (by omega)]
  exact if_neg (fun z => by
    rcases z with z | z
    · exact neg_lt i (by omega) z
    · have : L + 1 - 1 ≤ i := z
      omega)
theorem j_feed (N : Nat) (hN : 2048 < N) {σ : Wd} (R : SRel σ) {L i : Nat} {xs : Nat → Int32} (hi : i + 6 ≤ L) (hL : L ≤ 3072) (KB : Int32 → Wd → Option (Int32 × Wd)) (KO : Wd → Option (Int32 × Wd)) : ∃ τ, SRel τ ∧ f_L_law_J180 N (L + 1, xs) KB KO (nI i) σ = KB (nI (i + 6)) τ := by
  obtain ⟨r, σ1, σ2, e1, e2, R2⟩ := st_feed N hN R (xs (i + 1))
  refine ⟨σ2, R2, ?_⟩
  unfold f_L_law_J180
  rw [show nI i + 1 = nI (i + 1) from nAddR i 1, show nI i + 6 = nI (i + 6) from nAddR i 6]
  rw [xsc_n (show i + 1 < L by omega) (by omega), obind]
  rw [e1, obind]
  try dsimp only
  rw [obind]
  rw [e2, obind]
  try dsimp only
  rw [if_pos rfl]
theorem j_read (N : Nat) (hN : 2048 < N) {σ : Wd} (R : SRel σ) {L i : Nat} {xs : Nat → Int32} (hi : i + 6 ≤ L) (hL : L ≤ 3072) (KB : Int32 → Wd → Option (Int32 × Wd)) (KO : Wd → Option (Int32 × Wd)) : ∃ τ, SRel τ ∧ f_L_law_J203 N (L + 1, xs) KB KO (nI i) σ = KB (nI (i + 6)) τ := by
  obtain ⟨r, σ1, σ2, e1, e2, R2⟩ := st_read N hN R 
  refine ⟨σ2, R2, ?_⟩
  unfold f_L_law_J203
  rw [show nI i + 6 = nI (i + 6) from nAddR i 6]
  rw [e1, obind]
  try dsimp only
  rw [e2, obind]
  try dsimp only
  rw [if_pos rfl]
theorem j_find (N : Nat) (hN : 2048 < N) {σ : Wd} (R : SRel σ) {L i : Nat} {xs : Nat → Int32} (hi : i + 6 ≤ L) (hL : L ≤ 3072) (KB : Int32 → Wd → Option (Int32 × Wd)) (KO : Wd → Option (Int32 × Wd)) : ∃ τ, SRel τ ∧ f_L_law_J216 N (L + 1, xs) KB KO (nI i) σ = KB (nI (i + 6)) τ := by
  obtain ⟨r, σ1, σ2, e1, e2, R2⟩ := st_find N hN R 
  refine ⟨σ2, R2, ?_⟩
  unfold f_L_law_J216
  rw [show nI i + 6 = nI (i + 6) from nAddR i 6]
  rw [e1, obind]
  try dsimp only
  rw [e2, obind]
  try dsimp only
  rw [if_pos rfl]
theorem j_forget (N : Nat) (hN : 2048 < N) {σ : Wd} (R : SRel σ) {L i : Nat} {xs : Nat → Int32} (hi : i + 6 ≤ L) (hL : L ≤ 3072) (KB : Int32 → Wd → Option (Int32 × Wd)) (KO : Wd → Option (Int32 × Wd)) : ∃ τ, SRel τ ∧ f_L_law_J229 N (L + 1, xs) KB KO (nI i) σ = KB (nI (i + 6)) τ := by
  obtain ⟨r, σ1, σ2, e1, e2, R2⟩ := st_forget N hN R (xs (i + 1))
  refine ⟨σ2, R2, ?_⟩
  unfold f_L_law_J229
  rw [show nI i + 1 = nI (i + 1) from nAddR i 1, show nI i + 6 = nI (i + 6) from nAddR i 6]
  rw [xsc_n (show i + 1 < L by omega) (by omega), obind]
  rw [e1, obind]
  try dsimp only
  rw [obind]
  rw [e2, obind]
  try dsimp only
  rw [if_pos rfl]
theorem j_plan (N : Nat) (hN : 2048 < N) {σ : Wd} (R : SRel σ) {L i : Nat} {xs : Nat → Int32} (hi : i + 6 ≤ L) (hL : L ≤ 3072) (KB : Int32 → Wd → Option (Int32 × Wd)) (KO : Wd → Option (Int32 × Wd)) : ∃ τ, SRel τ ∧ f_L_law_J252 N (L + 1, xs) KB KO (nI i) σ = KB (nI (i + 6)) τ := by
  obtain ⟨r, σ1, σ2, e1, e2, R2⟩ := st_plan N hN R (xs (i + 1)) (xs (i + 2))
  refine ⟨σ2, R2, ?_⟩
  unfold f_L_law_J252
  rw [show nI i + 1 = nI (i + 1) from nAddR i 1, show nI i + 2 = nI (i + 2) from nAddR i 2, show nI i + 6 = nI (i + 6) from nAddR i 6]
  rw [xsc_n (show i + 1 < L by omega) (by omega), obind]
  rw [xsc_n (show i + 2 < L by omega) (by omega), obind]
  rw [e1, obind]
  try dsimp only
  rw [obind]
  rw [obind]
  rw [e2, obind]
  try dsimp only
  rw [if_pos rfl]
theorem j_name (N : Nat) (hN : 2048 < N) {σ : Wd} (R : SRel σ) {L i : Nat} {xs : Nat → Int32} (hi : i + 6 ≤ L) (hL : L ≤ 3072) (KB : Int32 → Wd → Option (Int32 × Wd)) (KO : Wd → Option (Int32 × Wd)) : ∃ τ, SRel τ ∧ f_L_law_J285 N (L + 1, xs) KB KO (nI i) σ = KB (nI (i + 6)) τ := by
  obtain ⟨r, σ1, σ2, e1, e2, R2⟩ := st_name N hN R (xs (i + 1)) (xs (i + 2))
  refine ⟨σ2, R2, ?_⟩
  unfold f_L_law_J285
  rw [show nI i + 1 = nI (i + 1) from nAddR i 1, show nI i + 2 = nI (i + 2) from nAddR i 2, show nI i + 6 = nI (i + 6) from nAddR i 6]
  rw [xsc_n (show i + 1 < L by omega) (by omega), obind]
  rw [xsc_n (show i + 2 < L by omega) (by omega), obind]
  rw [e1, obind]
  try dsimp only
  rw [obind]
  rw [obind]
  rw [e2, obind]
  try dsimp only
  rw [if_pos rfl]
theorem j_delay (N : Nat) (hN : 2048 < N) {σ : Wd} (R : SRel σ) {L i : Nat} {xs : Nat → Int32} (hi : i + 6 ≤ L) (hL : L ≤ 3072) (KB : Int32 → Wd → Option (Int32 × Wd)) (KO : Wd → Option (Int32 × Wd)) : ∃ τ, SRel τ ∧ f_L_law_J318 N (L + 1, xs) KB KO (nI i) σ = KB (nI (i + 6)) τ := by
  obtain ⟨r, σ1, σ2, e1, e2, R2⟩ := st_delay N hN R (xs (i + 1)) (xs (i + 2))
  refine ⟨σ2, R2, ?_⟩
  unfold f_L_law_J318
  rw [show nI i + 1 = nI (i + 1) from nAddR i 1, show nI i + 2 = nI (i + 2) from nAddR i 2, show nI i + 6 = nI (i + 6) from nAddR i 6]
  rw [xsc_n (show i + 1 < L by omega) (by omega), obind]
  rw [xsc_n (show i + 2 < L by omega) (by omega), obind]
  rw [e1, obind]
  try dsimp only
  rw [obind]
  rw [obind]
  rw [e2, obind]
  try dsimp only
  rw [if_pos rfl]
theorem j_arrival (N : Nat) (hN : 2048 < N) {σ : Wd} (R : SRel σ) {L i : Nat} {xs : Nat → Int32} (hi : i + 6 ≤ L) (hL : L ≤ 3072) (KB : Int32 → Wd → Option (Int32 × Wd)) (KO : Wd → Option (Int32 × Wd)) : ∃ τ, SRel τ ∧ f_L_law_J351 N (L + 1, xs) KB KO (nI i) σ = KB (nI (i + 6)) τ := by
  obtain ⟨r, σ1, σ2, e1, e2, R2⟩ := st_arrival N hN R (xs (i + 1)) (xs (i + 2)) (xs (i + 3))
  refine ⟨σ2, R2, ?_⟩
  unfold f_L_law_J351
  rw [show nI i + 1 = nI (i + 1) from nAddR i 1, show nI i + 2 = nI (i + 2) from nAddR i 2, show nI i + 3 = nI (i + 3) from nAddR i 3, show nI i + 6 = nI (i + 6) from nAddR i 6]
  rw [xsc_n (show i + 1 < L by omega) (by omega), obind]
  rw [xsc_n (show i + 2 < L by omega) (by omega), obind]
  rw [xsc_n (show i + 3 < L by omega) (by omega), obind]
  rw [e1, obind]
  try dsimp only
  rw [obind]
  rw [obind]
  rw [obind]
  rw [e2, obind]
  try dsimp only
  rw [if_pos rfl]
theorem j_arrives (N : Nat) (hN : 2048 < N) {σ : Wd} (R : SRel σ) {L i : Nat} {xs : Nat → Int32} (hi : i + 6 ≤ L) (hL : L ≤ 3072) (KB : Int32 → Wd → Option (Int32 × Wd)) (KO : Wd → Option (Int32 × Wd)) : ∃ τ, SRel τ ∧ f_L_law_J394 N (L + 1, xs) KB KO (nI i) σ = KB (nI (i + 6)) τ := by
  obtain ⟨r, σ1, σ2, e1, e2, R2⟩ := st_arrives N R (xs (i + 1)) (xs (i + 2))
  refine ⟨σ2, R2, ?_⟩
  unfold f_L_law_J394
  rw [show nI i + 1 = nI (i + 1) from nAddR i 1, show nI i + 2 = nI (i + 2) from nAddR i 2, show nI i + 6 = nI (i + 6) from nAddR i 6]
  rw [xsc_n (show i + 1 < L by omega) (by omega), obind]
  rw [xsc_n (show i + 2 < L by omega) (by omega), obind]
  rw [e1, obind]
  try dsimp only
  rw [obind]
  rw [obind]
  rw [e2, obind]
  try dsimp only
  rw [if_pos rfl]
theorem j_gates (N : Nat) (hN : 2048 < N) {σ : Wd} (R : SRel σ) {L i : Nat} {xs : Nat → Int32} (hi : i + 6 ≤ L) (hL : L ≤ 3072) (KB : Int32 → Wd → Option (Int32 × Wd)) (KO : Wd → Option (Int32 × Wd)) : ∃ τ, SRel τ ∧ f_L_law_J427 N (L + 1, xs) KB KO (nI i) σ = KB (nI (i + 6)) τ := by
  obtain ⟨r, σ1, σ2, e1, e2, R2⟩ := st_gates N hN R (xs (i + 1)) (xs (i + 2))
  refine ⟨σ2, R2, ?_⟩
  unfold f_L_law_J427
  rw [show nI i + 1 = nI (i + 1) from nAddR i 1, show nI i + 2 = nI (i + 2) from nAddR i 2, show nI i + 6 = nI (i + 6) from nAddR i 6]
  rw [xsc_n (show i + 1 < L by omega) (by omega), obind]
  rw [xsc_n (show i + 2 < L by omega) (by omega), obind]
  rw [e1, obind]
  try dsimp only
  rw [obind]
  rw [obind]
  rw [e2, obind]
  try dsimp only
  rw [if_pos rfl]
theorem j_latest (N : Nat) (hN : 2048 < N) {σ : Wd} (R : SRel σ) {L i : Nat} {xs : Nat → Int32} (hi : i + 6 ≤ L) (hL : L ≤ 3072) (KB : Int32 → Wd → Option (Int32 × Wd)) (KO : Wd → Option (Int32 × Wd)) : ∃ τ, SRel τ ∧ f_L_law_J460 N (L + 1, xs) KB KO (nI i) σ = KB (nI (i + 6)) τ := by
  obtain ⟨r, σ1, σ2, e1, e2, R2⟩ := st_latest N hN R (xs (i + 1)) (xs (i + 2))
  refine ⟨σ2, R2, ?_⟩
  unfold f_L_law_J460
  rw [show nI i + 1 = nI (i + 1) from nAddR i 1, show nI i + 2 = nI (i + 2) from nAddR i 2, show nI i + 6 = nI (i + 6) from nAddR i 6]
  rw [xsc_n (show i + 1 < L by omega) (by omega), obind]
  rw [xsc_n (show i + 2 < L by omega) (by omega), obind]
  rw [e1, obind]
  try dsimp only
  rw [obind]
  rw [obind]
  rw [e2, obind]
  try dsimp only
  rw [if_pos rfl]
theorem j_deep (N : Nat) (hN : 2048 < N) {σ : Wd} (R : SRel σ) {L i : Nat} {xs : Nat → Int32} (hi : i + 6 ≤ L) (hL : L ≤ 3072) (KB : Int32 → Wd → Option (Int32 × Wd)) (KO : Wd → Option (Int32 × Wd)) : ∃ τ, SRel τ ∧ f_L_law_J493 N (L + 1, xs) KB KO (nI i) σ = KB (nI (i + 6)) τ := by
  obtain ⟨r, σ1, σ2, e1, e2, R2⟩ := st_deep N hN R (xs (i + 1))
  refine ⟨σ2, R2, ?_⟩
  unfold f_L_law_J493
  rw [show nI i + 1 = nI (i + 1) from nAddR i 1, show nI i + 6 = nI (i + 6) from nAddR i 6]
  rw [xsc_n (show i + 1 < L by omega) (by omega), obind]
  rw [e1, obind]
  try dsimp only
  rw [obind]
  rw [e2, obind]
  try dsimp only
  rw [if_pos rfl]
theorem j_hangs (N : Nat) (hN : 2048 < N) {σ : Wd} (R : SRel σ) {L i : Nat} {xs : Nat → Int32} (hi : i + 6 ≤ L) (hL : L ≤ 3072) (KB : Int32 → Wd → Option (Int32 × Wd)) (KO : Wd → Option (Int32 × Wd)) : ∃ τ, SRel τ ∧ f_L_law_J516 N (L + 1, xs) KB KO (nI i) σ = KB (nI (i + 6)) τ := by
  obtain ⟨r, σ1, σ2, e1, e2, R2⟩ := st_hangs N hN R (xs (i + 1))
  refine ⟨σ2, R2, ?_⟩
  unfold f_L_law_J516
  rw [show nI i + 1 = nI (i + 1) from nAddR i 1, show nI i + 6 = nI (i + 6) from nAddR i 6]
  rw [xsc_n (show i + 1 < L by omega) (by omega), obind]
  rw [e1, obind]
  try dsimp only
  rw [obind]
  rw [e2, obind]
  try dsimp only
  rw [if_pos rfl]
theorem j_times (N : Nat) (hN : 2048 < N) {σ : Wd} (R : SRel σ) {L i : Nat} {xs : Nat → Int32} (hi : i + 6 ≤ L) (hL : L ≤ 3072) (KB : Int32 → Wd → Option (Int32 × Wd)) (KO : Wd → Option (Int32 × Wd)) : ∃ τ, SRel τ ∧ f_L_law_J539 N (L + 1, xs) KB KO (nI i) σ = KB (nI (i + 6)) τ := by
  obtain ⟨r, σ1, σ2, e1, e2, R2⟩ := st_times N hN R (xs (i + 1))
  refine ⟨σ2, R2, ?_⟩
  unfold f_L_law_J539
  rw [show nI i + 1 = nI (i + 1) from nAddR i 1, show nI i + 6 = nI (i + 6) from nAddR i 6]
  rw [xsc_n (show i + 1 < L by omega) (by omega), obind]
  rw [e1, obind]
  try dsimp only
  rw [obind]
  rw [e2, obind]
  try dsimp only
  rw [if_pos rfl]
theorem j_adds (N : Nat) (hN : 2048 < N) {σ : Wd} (R : SRel σ) {L i : Nat} {xs : Nat → Int32} (hi : i + 6 ≤ L) (hL : L ≤ 3072) (KB : Int32 → Wd → Option (Int32 × Wd)) (KO : Wd → Option (Int32 × Wd)) : ∃ τ, SRel τ ∧ f_L_law_J562 N (L + 1, xs) KB KO (nI i) σ = KB (nI (i + 6)) τ := by
  obtain ⟨r, σ1, σ2, e1, e2, R2⟩ := st_adds N hN R (xs (i + 1)) (xs (i + 2)) (xs (i + 3)) (xs (i + 4))
  refine ⟨σ2, R2, ?_⟩
  unfold f_L_law_J562
  rw [show nI i + 1 = nI (i + 1) from nAddR i 1, show nI i + 2 = nI (i + 2) from nAddR i 2, show nI i + 3 = nI (i + 3) from nAddR i 3, show nI i + 4 = nI (i + 4) from nAddR i 4, show nI i + 6 = nI (i + 6) from nAddR i 6]
  rw [xsc_n (show i + 1 < L by omega) (by omega), obind]
  rw [xsc_n (show i + 2 < L by omega) (by omega), obind]
  rw [xsc_n (show i + 3 < L by omega) (by omega), obind]
  rw [xsc_n (show i + 4 < L by omega) (by omega), obind]
  rw [e1, obind]
  try dsimp only
  rw [obind]
  rw [obind]
  rw [obind]
  rw [obind]
  rw [e2, obind]
  try dsimp only
  rw [if_pos rfl]
theorem j_settles (N : Nat) (hN : 2048 < N) {σ : Wd} (R : SRel σ) {L i : Nat} {xs : Nat → Int32} (hi : i + 6 ≤ L) (hL : L ≤ 3072) (KB : Int32 → Wd → Option (Int32 × Wd)) (KO : Wd → Option (Int32 × Wd)) : ∃ τ, SRel τ ∧ f_L_law_J615 N (L + 1, xs) KB KO (nI i) σ = KB (nI (i + 6)) τ := by
  obtain ⟨r, σ1, σ2, e1, e2, R2⟩ := st_settles N hN R (xs (i + 1)) (xs (i + 2)) (xs (i + 3)) (xs (i + 4)) (xs (i + 5))
  refine ⟨σ2, R2, ?_⟩
  unfold f_L_law_J615
  rw [show nI i + 1 = nI (i + 1) from nAddR i 1, show nI i + 2 = nI (i + 2) from nAddR i 2, show nI i + 3 = nI (i + 3) from nAddR i 3, show nI i + 4 = nI (i + 4) from nAddR i 4, show nI i + 5 = nI (i + 5) from nAddR i 5, show nI i + 6 = nI (i + 6) from nAddR i 6]
  rw [xsc_n (show i + 1 < L by omega) (by omega), obind]
  rw [xsc_n (show i + 2 < L by omega) (by omega), obind]
  rw [xsc_n (show i + 3 < L by omega) (by omega), obind]
  rw [xsc_n (show i + 4 < L by omega) (by omega), obind]
  rw [xsc_n (show i + 5 < L by omega) (by omega), obind]
  rw [e1, obind]
  try dsimp only
  rw [obind]
  rw [obind]
  rw [obind]
  rw [obind]
  rw [obind]
  rw [e2, obind]
  try dsimp only
  rw [if_pos rfl]
theorem j_slowest (N : Nat) (hN : 2048 < N) {σ : Wd} (R : SRel σ) {L i : Nat} {xs : Nat → Int32} (hi : i + 6 ≤ L) (hL : L ≤ 3072) (KB : Int32 → Wd → Option (Int32 × Wd)) (KO : Wd → Option (Int32 × Wd)) : ∃ τ, SRel τ ∧ f_L_law_J678 N (L + 1, xs) KB KO (nI i) σ = KB (nI (i + 6)) τ := by
  obtain ⟨r, σ1, σ2, e1, e2, R2⟩ := st_slowest N hN R (xs (i + 1)) (xs (i + 2))
  refine ⟨σ2, R2, ?_⟩
  unfold f_L_law_J678
  rw [show nI i + 1 = nI (i + 1) from nAddR i 1, show nI i + 2 = nI (i + 2) from nAddR i 2, show nI i + 6 = nI (i + 6) from nAddR i 6]
  rw [xsc_n (show i + 1 < L by omega) (by omega), obind]
  rw [xsc_n (show i + 2 < L by omega) (by omega), obind]
  rw [e1, obind]
  try dsimp only
  rw [obind]
  rw [obind]
  rw [e2, obind]
  try dsimp only
  rw [if_pos rfl]
theorem j_intime (N : Nat) (hN : 2048 < N) {σ : Wd} (R : SRel σ) {L i : Nat} {xs : Nat → Int32} (hi : i + 6 ≤ L) (hL : L ≤ 3072) (KB : Int32 → Wd → Option (Int32 × Wd)) (KO : Wd → Option (Int32 × Wd)) : ∃ τ, SRel τ ∧ f_L_law_J711 N (L + 1, xs) KB KO (nI i) σ = KB (nI (i + 6)) τ := by
  obtain ⟨r, σ1, σ2, e1, e2, R2⟩ := st_intime N hN R (xs (i + 1)) (xs (i + 2))
  refine ⟨σ2, R2, ?_⟩
  unfold f_L_law_J711
  rw [show nI i + 1 = nI (i + 1) from nAddR i 1, show nI i + 2 = nI (i + 2) from nAddR i 2, show nI i + 6 = nI (i + 6) from nAddR i 6]
  rw [xsc_n (show i + 1 < L by omega) (by omega), obind]
  rw [xsc_n (show i + 2 < L by omega) (by omega), obind]
  rw [e1, obind]
  try dsimp only
  rw [obind]
  rw [obind]
  rw [e2, obind]
  try dsimp only
  rw [if_pos rfl]
theorem j_shared (N : Nat) (hN : 2048 < N) {σ : Wd} (R : SRel σ) {L i : Nat} {xs : Nat → Int32} (hi : i + 6 ≤ L) (hL : L ≤ 3072) (KB : Int32 → Wd → Option (Int32 × Wd)) (KO : Wd → Option (Int32 × Wd)) : ∃ τ, SRel τ ∧ f_L_law_J744 N (L + 1, xs) KB KO (nI i) σ = KB (nI (i + 6)) τ := by
  obtain ⟨r, σ1, σ2, e1, e2, R2⟩ := st_shared N hN R (xs (i + 1)) (xs (i + 2))
  refine ⟨σ2, R2, ?_⟩
  unfold f_L_law_J744
  rw [show nI i + 1 = nI (i + 1) from nAddR i 1, show nI i + 2 = nI (i + 2) from nAddR i 2, show nI i + 6 = nI (i + 6) from nAddR i 6]
  rw [xsc_n (show i + 1 < L by omega) (by omega), obind]
  rw [xsc_n (show i + 2 < L by omega) (by omega), obind]
  rw [e1, obind]
  try dsimp only
  rw [obind]
  rw [obind]
  rw [e2, obind]
  try dsimp only
  rw [if_pos rfl]
theorem j_alike (N : Nat) (hN : 2048 < N) {σ : Wd} (R : SRel σ) {L i : Nat} {xs : Nat → Int32} (hi : i + 6 ≤ L) (hL : L ≤ 3072) (KB : Int32 → Wd → Option (Int32 × Wd)) (KO : Wd → Option (Int32 × Wd)) : ∃ τ, SRel τ ∧ f_L_law_J777 N (L + 1, xs) KB KO (nI i) σ = KB (nI (i + 6)) τ := by
  obtain ⟨r, σ1, σ2, e1, e2, R2⟩ := st_alike N hN R (xs (i + 1)) (xs (i + 2))
  refine ⟨σ2, R2, ?_⟩
  unfold f_L_law_J777
  rw [show nI i + 1 = nI (i + 1) from nAddR i 1, show nI i + 2 = nI (i + 2) from nAddR i 2, show nI i + 6 = nI (i + 6) from nAddR i 6]
  rw [xsc_n (show i + 1 < L by omega) (by omega), obind]
  rw [xsc_n (show i + 2 < L by omega) (by omega), obind]
  rw [e1, obind]
  try dsimp only
  rw [obind]
  rw [obind]
  rw [e2, obind]
  try dsimp only
  rw [if_pos rfl]
theorem j_known (N : Nat) (hN : 2048 < N) {σ : Wd} (R : SRel σ) {L i : Nat} {xs : Nat → Int32} (hi : i + 6 ≤ L) (hL : L ≤ 3072) (KB : Int32 → Wd → Option (Int32 × Wd)) (KO : Wd → Option (Int32 × Wd)) : ∃ τ, SRel τ ∧ f_L_law_J810 N (L + 1, xs) KB KO (nI i) σ = KB (nI (i + 6)) τ := by
  obtain ⟨r, σ1, σ2, e1, e2, R2⟩ := st_known N hN R (xs (i + 1))
  refine ⟨σ2, R2, ?_⟩
  unfold f_L_law_J810
  rw [show nI i + 1 = nI (i + 1) from nAddR i 1, show nI i + 6 = nI (i + 6) from nAddR i 6]
  rw [xsc_n (show i + 1 < L by omega) (by omega), obind]
  rw [e1, obind]
  try dsimp only
  rw [obind]
  rw [e2, obind]
  try dsimp only
  rw [if_pos rfl]
theorem j_choose (N : Nat) (hN : 2048 < N) {σ : Wd} (R : SRel σ) {L i : Nat} {xs : Nat → Int32} (hi : i + 6 ≤ L) (hL : L ≤ 3072) (KB : Int32 → Wd → Option (Int32 × Wd)) (KO : Wd → Option (Int32 × Wd)) : ∃ τ, SRel τ ∧ f_L_law_J833 N (L + 1, xs) KB KO (nI i) σ = KB (nI (i + 6)) τ := by
  obtain ⟨r, σ1, σ2, e1, e2, R2⟩ := st_choose N hN R (xs (i + 1)) (xs (i + 2)) (xs (i + 3)) (xs (i + 4))
  refine ⟨σ2, R2, ?_⟩
  unfold f_L_law_J833
  rw [show nI i + 1 = nI (i + 1) from nAddR i 1, show nI i + 2 = nI (i + 2) from nAddR i 2, show nI i + 3 = nI (i + 3) from nAddR i 3, show nI i + 4 = nI (i + 4) from nAddR i 4, show nI i + 6 = nI (i + 6) from nAddR i 6]
  rw [xsc_n (show i + 1 < L by omega) (by omega), obind]
  rw [xsc_n (show i + 2 < L by omega) (by omega), obind]
  rw [xsc_n (show i + 3 < L by omega) (by omega), obind]
  rw [xsc_n (show i + 4 < L by omega) (by omega), obind]
  rw [e1, obind]
  try dsimp only
  rw [obind]
  rw [obind]
  rw [obind]
  rw [obind]
  rw [e2, obind]
  try dsimp only
  rw [if_pos rfl]
theorem j_chosen (N : Nat) (hN : 2048 < N) {σ : Wd} (R : SRel σ) {L i : Nat} {xs : Nat → Int32} (hi : i + 6 ≤ L) (hL : L ≤ 3072) (KB : Int32 → Wd → Option (Int32 × Wd)) (KO : Wd → Option (Int32 × Wd)) : ∃ τ, SRel τ ∧ f_L_law_J886 N (L + 1, xs) KB KO (nI i) σ = KB (nI (i + 6)) τ := by
  obtain ⟨r, σ1, σ2, e1, e2, R2⟩ := st_chosen N hN R (xs (i + 1)) (xs (i + 2)) (xs (i + 3))
  refine ⟨σ2, R2, ?_⟩
  unfold f_L_law_J886
  rw [show nI i + 1 = nI (i + 1) from nAddR i 1, show nI i + 2 = nI (i + 2) from nAddR i 2, show nI i + 3 = nI (i + 3) from nAddR i 3, show nI i + 6 = nI (i + 6) from nAddR i 6]
  rw [xsc_n (show i + 1 < L by omega) (by omega), obind]
  rw [xsc_n (show i + 2 < L by omega) (by omega), obind]
  rw [xsc_n (show i + 3 < L by omega) (by omega), obind]
  rw [e1, obind]
  try dsimp only
  rw [obind]
  rw [obind]
  rw [obind]
  rw [e2, obind]
  try dsimp only
  rw [if_pos rfl]
theorem j_longest (N : Nat) (hN : 2048 < N) {σ : Wd} (R : SRel σ) {L i : Nat} {xs : Nat → Int32} (hi : i + 6 ≤ L) (hL : L ≤ 3072) (KB : Int32 → Wd → Option (Int32 × Wd)) (KO : Wd → Option (Int32 × Wd)) : ∃ τ, SRel τ ∧ f_L_law_J929 N (L + 1, xs) KB KO (nI i) σ = KB (nI (i + 6)) τ := by
  obtain ⟨r, σ1, σ2, e1, e2, R2⟩ := st_longest N hN R (xs (i + 1)) (xs (i + 2)) (xs (i + 3)) (xs (i + 4)) (xs (i + 5))
  refine ⟨σ2, R2, ?_⟩
  unfold f_L_law_J929
  rw [show nI i + 1 = nI (i + 1) from nAddR i 1, show nI i + 2 = nI (i + 2) from nAddR i 2, show nI i + 3 = nI (i + 3) from nAddR i 3, show nI i + 4 = nI (i + 4) from nAddR i 4, show nI i + 5 = nI (i + 5) from nAddR i 5, show nI i + 6 = nI (i + 6) from nAddR i 6]
  rw [xsc_n (show i + 1 < L by omega) (by omega), obind]
  rw [xsc_n (show i + 2 < L by omega) (by omega), obind]
  rw [xsc_n (show i + 3 < L by omega) (by omega), obind]
  rw [xsc_n (show i + 4 < L by omega) (by omega), obind]
  rw [xsc_n (show i + 5 < L by omega) (by omega), obind]
  rw [e1, obind]
  try dsimp only
  rw [obind]
  rw [obind]
  rw [obind]
  rw [obind]
  rw [obind]
  rw [e2, obind]
  try dsimp only
  rw [if_pos rfl]
theorem j_runs (N : Nat) (hN : 2048 < N) {σ : Wd} (R : SRel σ) {L i : Nat} {xs : Nat → Int32} (hi : i + 6 ≤ L) (hL : L ≤ 3072) (KB : Int32 → Wd → Option (Int32 × Wd)) (KO : Wd → Option (Int32 × Wd)) : ∃ τ, SRel τ ∧ f_L_law_J992 N (L + 1, xs) KB KO (nI i) σ = KB (nI (i + 6)) τ := by
  obtain ⟨r, σ1, σ2, e1, e2, R2⟩ := st_runs N hN R (xs (i + 1)) (xs (i + 2))
  refine ⟨σ2, R2, ?_⟩
  unfold f_L_law_J992
  rw [show nI i + 1 = nI (i + 1) from nAddR i 1, show nI i + 2 = nI (i + 2) from nAddR i 2, show nI i + 6 = nI (i + 6) from nAddR i 6]
  rw [xsc_n (show i + 1 < L by omega) (by omega), obind]
  rw [xsc_n (show i + 2 < L by omega) (by omega), obind]
  rw [e1, obind]
  try dsimp only
  rw [obind]
  rw [obind]
  rw [e2, obind]
  try dsimp only
  rw [if_pos ((lg_cmp_eq _ _).mpr rfl)]
theorem j_shelve (N : Nat) (hN : 2048 < N) {σ : Wd} (R : SRel σ) {L i : Nat} {xs : Nat → Int32} (hi : i + 6 ≤ L) (hL : L ≤ 3072) (KB : Int32 → Wd → Option (Int32 × Wd)) (KO : Wd → Option (Int32 × Wd)) : ∃ τ, SRel τ ∧ f_L_law_J1026 N (L + 1, xs) KB KO (nI i) σ = KB (nI (i + 6)) τ := by
  obtain ⟨r, σ1, σ2, e1, e2, R2⟩ := st_shelve N hN R (xs (i + 1)) (xs (i + 2))
  refine ⟨σ2, R2, ?_⟩
  unfold f_L_law_J1026
  rw [show nI i + 1 = nI (i + 1) from nAddR i 1, show nI i + 2 = nI (i + 2) from nAddR i 2, show nI i + 6 = nI (i + 6) from nAddR i 6]
  rw [xsc_n (show i + 1 < L by omega) (by omega), obind]
  rw [xsc_n (show i + 2 < L by omega) (by omega), obind]
  rw [e1, obind]
  try dsimp only
  rw [obind]
  rw [obind]
  rw [e2, obind]
  try dsimp only
  rw [if_pos rfl]
theorem j_taken (N : Nat) (hN : 2048 < N) {σ : Wd} (R : SRel σ) {L i : Nat} {xs : Nat → Int32} (hi : i + 6 ≤ L) (hL : L ≤ 3072) (KB : Int32 → Wd → Option (Int32 × Wd)) (KO : Wd → Option (Int32 × Wd)) : ∃ τ, SRel τ ∧ f_L_law_J1059 N (L + 1, xs) KB KO (nI i) σ = KB (nI (i + 6)) τ := by
  obtain ⟨r, σ1, σ2, e1, e2, R2⟩ := st_taken N hN R (xs (i + 1)) (xs (i + 2))
  refine ⟨σ2, R2, ?_⟩
  unfold f_L_law_J1059
  rw [show nI i + 1 = nI (i + 1) from nAddR i 1, show nI i + 2 = nI (i + 2) from nAddR i 2, show nI i + 6 = nI (i + 6) from nAddR i 6]
  rw [xsc_n (show i + 1 < L by omega) (by omega), obind]
  rw [xsc_n (show i + 2 < L by omega) (by omega), obind]
  rw [e1, obind]
  try dsimp only
  rw [obind]
  rw [obind]
  rw [e2, obind]
  try dsimp only
  rw [if_pos rfl]
theorem j_row (N : Nat) (hN : 2048 < N) {σ : Wd} (R : SRel σ) {L i : Nat} {xs : Nat → Int32} (hi : i + 6 ≤ L) (hL : L ≤ 3072) (KB : Int32 → Wd → Option (Int32 × Wd)) (KO : Wd → Option (Int32 × Wd)) : ∃ τ, SRel τ ∧ f_L_law_J1092 N (L + 1, xs) KB KO (nI i) σ = KB (nI (i + 6)) τ := by
  obtain ⟨r, σ1, σ2, e1, e2, R2⟩ := st_row N hN R (xs (i + 1)) (xs (i + 2)) (xs (i + 3))
  refine ⟨σ2, R2, ?_⟩
  unfold f_L_law_J1092
  rw [show nI i + 1 = nI (i + 1) from nAddR i 1, show nI i + 2 = nI (i + 2) from nAddR i 2, show nI i + 3 = nI (i + 3) from nAddR i 3, show nI i + 6 = nI (i + 6) from nAddR i 6]
  rw [xsc_n (show i + 1 < L by omega) (by omega), obind]
  rw [xsc_n (show i + 2 < L by omega) (by omega), obind]
  rw [xsc_n (show i + 3 < L by omega) (by omega), obind]
  rw [e1, obind]
  try dsimp only
  rw [obind]
  rw [obind]
  rw [obind]
  rw [e2, obind]
  try dsimp only
  rw [if_pos rfl]
theorem j_put (N : Nat) (hN : 2048 < N) {σ : Wd} (R : SRel σ) {L i : Nat} {xs : Nat → Int32} (hi : i + 6 ≤ L) (hL : L ≤ 3072) (KB : Int32 → Wd → Option (Int32 × Wd)) (KO : Wd → Option (Int32 × Wd)) : ∃ τ, SRel τ ∧ f_L_law_J1135 N (L + 1, xs) KB KO (nI i) σ = KB (nI (i + 6)) τ := by
  obtain ⟨r, σ1, σ2, e1, e2, R2⟩ := st_put N hN R (xs (i + 1)) (xs (i + 2)) (((Int32.toInt64 (xs (i + 3))) <<< (Int32.toInt64 32 &&& 63)) ||| ((Int32.toInt64 (xs (i + 4))) &&& (4294967295 : Int64)))
  refine ⟨σ2, R2, ?_⟩
  unfold f_L_law_J1135
  rw [show nI i + 1 = nI (i + 1) from nAddR i 1, show nI i + 2 = nI (i + 2) from nAddR i 2, show nI i + 3 = nI (i + 3) from nAddR i 3, show nI i + 4 = nI (i + 4) from nAddR i 4, show nI i + 6 = nI (i + 6) from nAddR i 6]
  rw [xsc_n (show i + 1 < L by omega) (by omega), obind]
  rw [xsc_n (show i + 2 < L by omega) (by omega), obind]
  rw [xsc_n (show i + 3 < L by omega) (by omega), obind]
  rw [xsc_n (show i + 4 < L by omega) (by omega), obind]
  rw [e1, obind]
  try dsimp only
  rw [obind]
  rw [obind]
  rw [obind]
  rw [obind]
  rw [e2, obind]
  try dsimp only
  rw [if_pos rfl]
theorem j_get (N : Nat) (hN : 2048 < N) {σ : Wd} (R : SRel σ) {L i : Nat} {xs : Nat → Int32} (hi : i + 6 ≤ L) (hL : L ≤ 3072) (KB : Int32 → Wd → Option (Int32 × Wd)) (KO : Wd → Option (Int32 × Wd)) : ∃ τ, SRel τ ∧ f_L_law_J1208 N (L + 1, xs) KB KO (nI i) σ = KB (nI (i + 6)) τ := by
  obtain ⟨r, σ1, σ2, e1, e2, R2⟩ := st_get N hN R (xs (i + 1)) (xs (i + 2))
  refine ⟨σ2, R2, ?_⟩
  unfold f_L_law_J1208
  rw [show nI i + 1 = nI (i + 1) from nAddR i 1, show nI i + 2 = nI (i + 2) from nAddR i 2, show nI i + 6 = nI (i + 6) from nAddR i 6]
  rw [xsc_n (show i + 1 < L by omega) (by omega), obind]
  rw [xsc_n (show i + 2 < L by omega) (by omega), obind]
  rw [e1, obind]
  try dsimp only
  rw [obind]
  rw [obind]
  rw [e2, obind]
  try dsimp only
  rw [if_pos ((lg_cmp_eq _ _).mpr rfl)]
theorem j_into (N : Nat) (hN : 2048 < N) {σ : Wd} (R : SRel σ) {L i : Nat} {xs : Nat → Int32} (hi : i + 6 ≤ L) (hL : L ≤ 3072) (KB : Int32 → Wd → Option (Int32 × Wd)) (KO : Wd → Option (Int32 × Wd)) : ∃ τ, SRel τ ∧ f_L_law_J1242 N (L + 1, xs) KB KO (nI i) σ = KB (nI (i + 6)) τ := by
  obtain ⟨r, σ1, σ2, e1, e2, R2⟩ := st_into N hN R (xs (i + 1)) (xs (i + 2))
  refine ⟨σ2, R2, ?_⟩
  unfold f_L_law_J1242
  rw [show nI i + 1 = nI (i + 1) from nAddR i 1, show nI i + 2 = nI (i + 2) from nAddR i 2, show nI i + 6 = nI (i + 6) from nAddR i 6]
  rw [xsc_n (show i + 1 < L by omega) (by omega), obind]
  rw [xsc_n (show i + 2 < L by omega) (by omega), obind]
  rw [e1, obind]
  try dsimp only
  rw [obind]
  rw [obind]
  rw [e2, obind]
  try dsimp only
  rw [if_pos rfl]
theorem j_from (N : Nat) (hN : 2048 < N) {σ : Wd} (R : SRel σ) {L i : Nat} {xs : Nat → Int32} (hi : i + 6 ≤ L) (hL : L ≤ 3072) (KB : Int32 → Wd → Option (Int32 × Wd)) (KO : Wd → Option (Int32 × Wd)) : ∃ τ, SRel τ ∧ f_L_law_J1275 N (L + 1, xs) KB KO (nI i) σ = KB (nI (i + 6)) τ := by
  obtain ⟨r, σ1, σ2, e1, e2, R2⟩ := st_from N hN R (xs (i + 1)) (xs (i + 2))
  refine ⟨σ2, R2, ?_⟩
  unfold f_L_law_J1275
  rw [show nI i + 1 = nI (i + 1) from nAddR i 1, show nI i + 2 = nI (i + 2) from nAddR i 2, show nI i + 6 = nI (i + 6) from nAddR i 6]
  rw [xsc_n (show i + 1 < L by omega) (by omega), obind]
  rw [xsc_n (show i + 2 < L by omega) (by omega), obind]
  rw [e1, obind]
  try dsimp only
  rw [obind]
  rw [obind]
  rw [e2, obind]
  try dsimp only
  rw [if_pos rfl]
theorem j_count (N : Nat) (hN : 2048 < N) {σ : Wd} (R : SRel σ) {L i : Nat} {xs : Nat → Int32} (hi : i + 6 ≤ L) (hL : L ≤ 3072) (KB : Int32 → Wd → Option (Int32 × Wd)) (KO : Wd → Option (Int32 × Wd)) : ∃ τ, SRel τ ∧ f_L_law_J1308 N (L + 1, xs) KB KO (nI i) σ = KB (nI (i + 6)) τ := by
  obtain ⟨r, σ1, σ2, e1, e2, R2⟩ := st_count N hN R (xs (i + 1))
  refine ⟨σ2, R2, ?_⟩
  unfold f_L_law_J1308
  rw [show nI i + 1 = nI (i + 1) from nAddR i 1, show nI i + 6 = nI (i + 6) from nAddR i 6]
  rw [xsc_n (show i + 1 < L by omega) (by omega), obind]
  rw [e1, obind]
  try dsimp only
  rw [obind]
  rw [e2, obind]
  try dsimp only
  rw [if_pos rfl]
end
