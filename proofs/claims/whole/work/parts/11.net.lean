def ft_X2 : List (Nat × FTE) := [(11, 1, 0, 3), (15, 1, 1, 3), (18, 1, 2, 3), (21, 1, 3, 3), (25, 1, 4, 3), (28, 1, 8, 3), (31, 1, 9, 3), (34, 1, 10, 3), (37, 1, 11, 3), (40, 1, 12, 3), (43, 1, 13, 3), (46, 1, 14, 3), (49, 1, 5, 0), (53, 1, 6, 0), (56, 1, 7, 0)]
def lt_X2 : List (Nat × Int64) := []
theorem fc_X2 : ft_X2.all (fun e => fldchk RX2 e && shchk e) = true := by decide +kernel
theorem lc_X2 : lt_X2.all (ltchk RX2) = true := by decide +kernel
def T_X2_clear : List (Nat × Ent) := [(0, .iconst 0, 1, []), (1, .istore_n 1, 2, []), (2, .iload_n 1, 3, []), (3, .bipush 27, 5, []), (5, .if_icmp .ge 16, 8, [21]), (8, .aload_n 0, 9, []), (9, .getfield 28, 12, []), (12, .iload_n 1, 13, []), (13, .iconst 0, 14, []), (14, .iastore, 15, []), (15, .iinc 1 1, 18, []), (18, .goto (-16), 21, [2]), (21, .aload_n 0, 22, []), (22, .bipush 27, 24, []), (24, .putfield 49, 27, []), (27, .aload_n 0, 28, []), (28, .iconst 0, 29, []), (29, .putfield 53, 32, []), (32, .aload_n 0, 33, []), (33, .bipush 26, 35, []), (35, .putfield 56, 38, []), (38, .return_, 39, [])]
set_option maxRecDepth 200000 in
theorem tc_X2_clear : T_X2_clear.all (chk cX2_clear) = true := by decide +kernel
def f_X2_clear_L2 (N : Nat) (KO21 : Wd → Option Wd) : Nat → Int32 → Wd → Option Wd
  | 0, _, _ => none
  | n + 1, x1, σ => if 27 ≤ x1 then (KO21 σ) else ((xst σ 23 512 x1 0).bind fun σ1 => f_X2_clear_L2 N KO21 n (x1 + 1) σ1)
def f_X2_clear_J21 (N : Nat) (σ : Wd) : Option Wd :=
  let σ2 : Wd := sF σ 4 5 27
  let σ3 : Wd := sF σ2 4 6 0
  let σ4 : Wd := sF σ3 4 7 26
  some σ4
def f_X2_clear (N : Nat) (σ : Wd) : Option Wd :=
  f_X2_clear_L2 N (f_X2_clear_J21 N) N 0 σ
def a_X2_clear (N : Nat) : List Value → Wd → Option Wd := fun as σ => kSE 4 as (fun r0 => kS0 r0 (f_X2_clear N σ)) (none)
def ct_X2_clear (N : Nat) : List (Nat × Cal) := []
set_option maxRecDepth 200000 in
theorem md_X2_clear (N : Nat) : MDOK T_X2_clear ft_X2 lt_X2 (ct_X2_clear N) cX2_clear RX2 1 := ⟨tc_X2_clear, fc_X2, lc_X2, (fun _ z => absurd z List.not_mem_nil)⟩
set_option maxRecDepth 200000 in
theorem g_X2_clear_L2 (N : Nat) (KO21 : Wd → Option Wd) (hKO21 : ∀ (σ : Wd), GO cX2_clear RX2 2 1 sc0 nI0 nJ0 some (KO21 σ) 21 (mkp 0 2 [(0, .ref 4)]) [] σ) : ∀ (n : Nat), ∀ (x1 : Int32) (σ : Wd), GO cX2_clear RX2 2 1 sc0 nI0 nJ0 some (f_X2_clear_L2 N KO21 n x1 σ) 2 (mkp 0 2 [(0, .ref 4), (1, .int x1)]) [] σ
  | 0, x1, σ => GO.none
  | n + 1, x1, σ => by
    exact (by refine GO.to (md_X2_clear N) (kl := [(21, fun vs st σ => kS0 st (kA 0 4 vs (KO21 σ))), (2, fun vs st σ => kS0 st (kA 0 4 vs (kI 1 vs (fun x1 => f_X2_clear_L2 N KO21 n x1 σ))))]) (List.forall_mem_cons.mpr ⟨fun vs st σ => go_kS0 (go_kA (fun h0 => GO.pat [(0, .ref 4)] ⟨h0, trivial⟩ (hKO21 σ))), List.forall_mem_cons.mpr ⟨fun vs st σ => go_kS0 (go_kA (fun h0 => go_kI (fun x1 h1 => GO.pat [(0, .ref 4), (1, .int x1)] ⟨h0, h1, trivial⟩ (g_X2_clear_L2 N KO21 hKO21 n x1 σ)))), (fun _ z => absurd z List.not_mem_nil)⟩⟩) 27 ?_ ?_ <;> rfl)
set_option maxRecDepth 200000 in
theorem g_X2_clear_J21 (N : Nat) (σ : Wd) : GO cX2_clear RX2 2 1 sc0 nI0 nJ0 some (f_X2_clear_J21 N σ) 21 (mkp 0 2 [(0, .ref 4)]) [] σ := by
  exact (by refine GO.to (md_X2_clear N) (kl := []) ((fun _ z => absurd z List.not_mem_nil)) 27 ?_ ?_ <;> rfl)
set_option maxRecDepth 200000 in
theorem C_X2_clear (N : Nat) : CTV 1 yX2_clear cX2_clear 2 none (a_X2_clear N) := by
  refine CTV.of (own := RX2) (by decide) rfl (fun as σ r h => ?_)
  unfold a_X2_clear at h
  rcases kSE_s h with ⟨r0, rfl, h0⟩ | hn
  ·
    obtain ⟨rfl, h9⟩ := kS0_s h0
    exact ⟨Nat.le_of_ble_eq_true rfl, by refine GO.to (md_X2_clear N) (kl := [(2, fun vs st σ => kS0 st (kA 0 4 vs (kI 1 vs (fun x1 => f_X2_clear_L2 N (f_X2_clear_J21 N) N x1 σ))))]) (List.forall_mem_cons.mpr ⟨fun vs st σ => go_kS0 (go_kA (fun h0 => go_kI (fun x1 h1 => GO.pat [(0, .ref 4), (1, .int x1)] ⟨h0, h1, trivial⟩ (g_X2_clear_L2 N (f_X2_clear_J21 N) (g_X2_clear_J21 N) N x1 σ)))), (fun _ z => absurd z List.not_mem_nil)⟩) 27 ?_ ?_ <;> rfl⟩
  cases hn
def T_X2_cutBack : List (Nat × Ent) := [(0, .aload_n 0, 1, []), (1, .getfield 49, 4, []), (4, .iconst 1, 5, []), (5, .isub, 6, []), (6, .istore 4, 8, []), (8, .iload 4, 10, []), (10, .iload_n 1, 11, []), (11, .if_icmp .lt 28, 14, [39]), (14, .aload_n 0, 15, []), (15, .getfield 28, 18, []), (18, .aload_n 0, 19, []), (19, .getfield 18, 22, []), (22, .iload 4, 24, []), (24, .iaload, 25, []), (25, .aload_n 0, 26, []), (26, .getfield 31, 29, []), (29, .iload 4, 31, []), (31, .iaload, 32, []), (32, .iastore, 33, []), (33, .iinc 4 (-1), 36, []), (36, .goto (-28), 39, [8]), (39, .aload_n 0, 40, []), (40, .iload_n 1, 41, []), (41, .putfield 49, 44, []), (44, .aload_n 0, 45, []), (45, .iload_n 2, 46, []), (46, .putfield 53, 49, []), (49, .aload_n 0, 50, []), (50, .iload_n 3, 51, []), (51, .putfield 56, 54, []), (54, .return_, 55, [])]
set_option maxRecDepth 200000 in
theorem tc_X2_cutBack : T_X2_cutBack.all (chk cX2_cutBack) = true := by decide +kernel
def f_X2_cutBack_L8 (N : Nat) (KO39 : Int32 → Int32 → Int32 → Wd → Option Wd) : Nat → Int32 → Int32 → Int32 → Int32 → Wd → Option Wd
  | 0, _, _, _, _, _ => none
  | n + 1, x1, x2, x3, x4, σ => if x4 < x1 then (KO39 x1 x2 x3 σ) else ((xld σ 20 512 x4).bind fun v1 => (xld σ 24 512 x4).bind fun v2 => (xst σ 23 512 v1 v2).bind fun σ3 => f_X2_cutBack_L8 N KO39 n x1 x2 x3 (x4 + (-1)) σ3)
def f_X2_cutBack_J39 (N : Nat) (x1 : Int32) (x2 : Int32) (x3 : Int32) (σ : Wd) : Option Wd :=
  let σ4 : Wd := sF σ 4 5 x1
  let σ5 : Wd := sF σ4 4 6 x2
  let σ6 : Wd := sF σ5 4 7 x3
  some σ6
def f_X2_cutBack (N : Nat) (a1 : Int32) (a2 : Int32) (a3 : Int32) (σ : Wd) : Option Wd :=
  f_X2_cutBack_L8 N (f_X2_cutBack_J39 N) N a1 a2 a3 ((σ.1 4 5) - 1) σ
def a_X2_cutBack (N : Nat) : List Value → Wd → Option Wd := fun as σ => kSE 4 as (fun r0 => kSI r0 (fun b1 r1 => kSI r1 (fun b2 r2 => kSI r2 (fun b3 r3 => kS0 r3 (f_X2_cutBack N b1 b2 b3 σ))))) (none)
def ct_X2_cutBack (N : Nat) : List (Nat × Cal) := []
set_option maxRecDepth 200000 in
theorem md_X2_cutBack (N : Nat) : MDOK T_X2_cutBack ft_X2 lt_X2 (ct_X2_cutBack N) cX2_cutBack RX2 1 := ⟨tc_X2_cutBack, fc_X2, lc_X2, (fun _ z => absurd z List.not_mem_nil)⟩
set_option maxRecDepth 200000 in
theorem g_X2_cutBack_L8 (N : Nat) (KO39 : Int32 → Int32 → Int32 → Wd → Option Wd) (hKO39 : ∀ (x1 : Int32) (x2 : Int32) (x3 : Int32) (σ : Wd), GO cX2_cutBack RX2 5 1 sc0 nI0 nJ0 some (KO39 x1 x2 x3 σ) 39 (mkp 0 5 [(0, .ref 4), (1, .int x1), (2, .int x2), (3, .int x3)]) [] σ) : ∀ (n : Nat), ∀ (x1 : Int32) (x2 : Int32) (x3 : Int32) (x4 : Int32) (σ : Wd), GO cX2_cutBack RX2 5 1 sc0 nI0 nJ0 some (f_X2_cutBack_L8 N KO39 n x1 x2 x3 x4 σ) 8 (mkp 0 5 [(0, .ref 4), (1, .int x1), (2, .int x2), (3, .int x3), (4, .int x4)]) [] σ
  | 0, x1, x2, x3, x4, σ => GO.none
  | n + 1, x1, x2, x3, x4, σ => by
    exact (by refine GO.to (md_X2_cutBack N) (kl := [(39, fun vs st σ => kS0 st (kA 0 4 vs (kI 1 vs (fun x1 => kI 2 vs (fun x2 => kI 3 vs (fun x3 => KO39 x1 x2 x3 σ)))))), (8, fun vs st σ => kS0 st (kA 0 4 vs (kI 1 vs (fun x1 => kI 2 vs (fun x2 => kI 3 vs (fun x3 => kI 4 vs (fun x4 => f_X2_cutBack_L8 N KO39 n x1 x2 x3 x4 σ)))))))]) (List.forall_mem_cons.mpr ⟨fun vs st σ => go_kS0 (go_kA (fun h0 => go_kI (fun x1 h1 => go_kI (fun x2 h2 => go_kI (fun x3 h3 => GO.pat [(0, .ref 4), (1, .int x1), (2, .int x2), (3, .int x3)] ⟨h0, h1, h2, h3, trivial⟩ (hKO39 x1 x2 x3 σ)))))), List.forall_mem_cons.mpr ⟨fun vs st σ => go_kS0 (go_kA (fun h0 => go_kI (fun x1 h1 => go_kI (fun x2 h2 => go_kI (fun x3 h3 => go_kI (fun x4 h4 => GO.pat [(0, .ref 4), (1, .int x1), (2, .int x2), (3, .int x3), (4, .int x4)] ⟨h0, h1, h2, h3, h4, trivial⟩ (g_X2_cutBack_L8 N KO39 hKO39 n x1 x2 x3 x4 σ))))))), (fun _ z => absurd z List.not_mem_nil)⟩⟩) 36 ?_ ?_ <;> rfl)
set_option maxRecDepth 200000 in
theorem g_X2_cutBack_J39 (N : Nat) (x1 : Int32) (x2 : Int32) (x3 : Int32) (σ : Wd) : GO cX2_cutBack RX2 5 1 sc0 nI0 nJ0 some (f_X2_cutBack_J39 N x1 x2 x3 σ) 39 (mkp 0 5 [(0, .ref 4), (1, .int x1), (2, .int x2), (3, .int x3)]) [] σ := by
  exact (by refine GO.to (md_X2_cutBack N) (kl := []) ((fun _ z => absurd z List.not_mem_nil)) 36 ?_ ?_ <;> rfl)
set_option maxRecDepth 200000 in
theorem C_X2_cutBack (N : Nat) : CTV 1 yX2_cutBack cX2_cutBack 5 none (a_X2_cutBack N) := by
  refine CTV.of (own := RX2) (by decide) rfl (fun as σ r h => ?_)
  unfold a_X2_cutBack at h
  rcases kSE_s h with ⟨r0, rfl, h0⟩ | hn
  ·
    obtain ⟨b1, r1, rfl, h1⟩ := kSI_s h0
    obtain ⟨b2, r2, rfl, h2⟩ := kSI_s h1
    obtain ⟨b3, r3, rfl, h3⟩ := kSI_s h2
    obtain ⟨rfl, h9⟩ := kS0_s h3
    exact ⟨Nat.le_of_ble_eq_true rfl, by refine GO.to (md_X2_cutBack N) (kl := [(8, fun vs st σ => kS0 st (kA 0 4 vs (kI 1 vs (fun x1 => kI 2 vs (fun x2 => kI 3 vs (fun x3 => kI 4 vs (fun x4 => f_X2_cutBack_L8 N (f_X2_cutBack_J39 N) N x1 x2 x3 x4 σ)))))))]) (List.forall_mem_cons.mpr ⟨fun vs st σ => go_kS0 (go_kA (fun h0 => go_kI (fun x1 h1 => go_kI (fun x2 h2 => go_kI (fun x3 h3 => go_kI (fun x4 h4 => GO.pat [(0, .ref 4), (1, .int x1), (2, .int x2), (3, .int x3), (4, .int x4)] ⟨h0, h1, h2, h3, h4, trivial⟩ (g_X2_cutBack_L8 N (f_X2_cutBack_J39 N) (g_X2_cutBack_J39 N) N x1 x2 x3 x4 σ))))))), (fun _ z => absurd z List.not_mem_nil)⟩) 36 ?_ ?_ <;> rfl⟩
  cases hn
def T_X2_outcomeGate : List (Nat × Ent) := [(0, .iload_n 1, 1, []), (1, .aload_n 0, 2, []), (2, .getfield 53, 5, []), (5, .if_icmp .ge 12, 8, [17]), (8, .aload_n 0, 9, []), (9, .getfield 25, 12, []), (12, .iload_n 1, 13, []), (13, .iaload, 14, []), (14, .goto 7, 17, [21]), (17, .aload_n 0, 18, []), (18, .getfield 56, 21, []), (21, .ireturn, 22, [])]
set_option maxRecDepth 200000 in
theorem tc_X2_outcomeGate : T_X2_outcomeGate.all (chk cX2_outcomeGate) = true := by decide +kernel
def f_X2_outcomeGate (N : Nat) (a1 : Int32) (σ : Wd) : Option (Int32 × Wd) :=
  if (σ.1 4 6) ≤ a1 then (some (σ.1 4 7, σ)) else ((xld σ 22 12 a1).bind fun v1 => some (v1, σ))
def a_X2_outcomeGate (N : Nat) : List Value → Wd → Option (Int32 × Wd) := fun as σ => kSE 4 as (fun r0 => kSI r0 (fun b1 r1 => kS0 r1 (f_X2_outcomeGate N b1 σ))) (none)
def ct_X2_outcomeGate (N : Nat) : List (Nat × Cal) := []
set_option maxRecDepth 200000 in
theorem md_X2_outcomeGate (N : Nat) : MDOK T_X2_outcomeGate ft_X2 lt_X2 (ct_X2_outcomeGate N) cX2_outcomeGate RX2 1 := ⟨tc_X2_outcomeGate, fc_X2, lc_X2, (fun _ z => absurd z List.not_mem_nil)⟩
set_option maxRecDepth 200000 in
theorem C_X2_outcomeGate (N : Nat) : CTI 1 yX2_outcomeGate cX2_outcomeGate 2 (some .int) (a_X2_outcomeGate N) := by
  refine CTI.of (own := RX2) (by decide) rfl (fun as σ r h => ?_)
  unfold a_X2_outcomeGate at h
  rcases kSE_s h with ⟨r0, rfl, h0⟩ | hn
  ·
    obtain ⟨b1, r1, rfl, h1⟩ := kSI_s h0
    obtain ⟨rfl, h9⟩ := kS0_s h1
    exact ⟨Nat.le_of_ble_eq_true rfl, by refine GO.to (md_X2_outcomeGate N) (kl := []) ((fun _ z => absurd z List.not_mem_nil)) 17 ?_ ?_ <;> rfl⟩
  cases hn
def T_X2_usedGates : List (Nat × Ent) := [(0, .iconst 0, 1, []), (1, .istore_n 2, 2, []), (2, .bipush 27, 4, []), (4, .istore_n 3, 5, []), (5, .iload_n 3, 6, []), (6, .aload_n 0, 7, []), (7, .getfield 49, 10, []), (10, .if_icmp .ge 36, 13, [46]), (13, .aload_n 0, 14, []), (14, .getfield 21, 17, []), (17, .iload_n 3, 18, []), (18, .baload, 19, []), (19, .ifCond .eq 21, 22, [40]), (22, .iload_n 1, 23, []), (23, .iconst (-1), 24, []), (24, .if_icmp .eq 13, 27, [37]), (27, .aload_n 0, 28, []), (28, .getfield 11, 31, []), (31, .iload_n 3, 32, []), (32, .iaload, 33, []), (33, .iload_n 1, 34, []), (34, .if_icmp .ne 6, 37, [40]), (37, .iinc 2 1, 40, []), (40, .iinc 3 1, 43, []), (43, .goto (-38), 46, [5]), (46, .iload_n 2, 47, []), (47, .ireturn, 48, [])]
set_option maxRecDepth 200000 in
theorem tc_X2_usedGates : T_X2_usedGates.all (chk cX2_usedGates) = true := by decide +kernel
def f_X2_usedGates_L5 (N : Nat) (KO46 : Int32 → Wd → Option (Int32 × Wd)) : Nat → Int32 → Int32 → Int32 → Wd → Option (Int32 × Wd)
  | 0, _, _, _, _ => none
  | n + 1, x1, x2, x3, σ => if (σ.1 4 5) ≤ x3 then (KO46 x2 σ) else ((xld σ 21 512 x3).bind fun v1 => if v1 = 0 then (f_X2_usedGates_L5 N KO46 n x1 x2 (x3 + 1) σ) else (if x1 = (-1) then (f_X2_usedGates_L5 N KO46 n x1 (x2 + 1) (x3 + 1) σ) else ((xld σ 18 512 x3).bind fun v2 => if v2 = x1 then (f_X2_usedGates_L5 N KO46 n x1 (x2 + 1) (x3 + 1) σ) else (f_X2_usedGates_L5 N KO46 n x1 x2 (x3 + 1) σ))))
def f_X2_usedGates_J46 (N : Nat) (x2 : Int32) (σ : Wd) : Option (Int32 × Wd) :=
  some (x2, σ)
def f_X2_usedGates (N : Nat) (a1 : Int32) (σ : Wd) : Option (Int32 × Wd) :=
  f_X2_usedGates_L5 N (f_X2_usedGates_J46 N) N a1 0 27 σ
def a_X2_usedGates (N : Nat) : List Value → Wd → Option (Int32 × Wd) := fun as σ => kSE 4 as (fun r0 => kSI r0 (fun b1 r1 => kS0 r1 (f_X2_usedGates N b1 σ))) (none)
def ct_X2_usedGates (N : Nat) : List (Nat × Cal) := []
set_option maxRecDepth 200000 in
theorem md_X2_usedGates (N : Nat) : MDOK T_X2_usedGates ft_X2 lt_X2 (ct_X2_usedGates N) cX2_usedGates RX2 1 := ⟨tc_X2_usedGates, fc_X2, lc_X2, (fun _ z => absurd z List.not_mem_nil)⟩
set_option maxRecDepth 200000 in
theorem g_X2_usedGates_L5 (N : Nat) (KO46 : Int32 → Wd → Option (Int32 × Wd)) (hKO46 : ∀ (x2 : Int32) (σ : Wd), GO cX2_usedGates RX2 4 1 sc0 rI nJ0 nV0 (KO46 x2 σ) 46 (mkp 0 4 [(2, .int x2)]) [] σ) : ∀ (n : Nat), ∀ (x1 : Int32) (x2 : Int32) (x3 : Int32) (σ : Wd), GO cX2_usedGates RX2 4 1 sc0 rI nJ0 nV0 (f_X2_usedGates_L5 N KO46 n x1 x2 x3 σ) 5 (mkp 0 4 [(0, .ref 4), (1, .int x1), (2, .int x2), (3, .int x3)]) [] σ
  | 0, x1, x2, x3, σ => GO.none
  | n + 1, x1, x2, x3, σ => by
    exact (by refine GO.to (md_X2_usedGates N) (kl := [(46, fun vs st σ => kS0 st (kI 2 vs (fun x2 => KO46 x2 σ))), (5, fun vs st σ => kS0 st (kA 0 4 vs (kI 1 vs (fun x1 => kI 2 vs (fun x2 => kI 3 vs (fun x3 => f_X2_usedGates_L5 N KO46 n x1 x2 x3 σ))))))]) (List.forall_mem_cons.mpr ⟨fun vs st σ => go_kS0 (go_kI (fun x2 h2 => GO.pat [(2, .int x2)] ⟨h2, trivial⟩ (hKO46 x2 σ))), List.forall_mem_cons.mpr ⟨fun vs st σ => go_kS0 (go_kA (fun h0 => go_kI (fun x1 h1 => go_kI (fun x2 h2 => go_kI (fun x3 h3 => GO.pat [(0, .ref 4), (1, .int x1), (2, .int x2), (3, .int x3)] ⟨h0, h1, h2, h3, trivial⟩ (g_X2_usedGates_L5 N KO46 hKO46 n x1 x2 x3 σ)))))), (fun _ z => absurd z List.not_mem_nil)⟩⟩) 32 ?_ ?_ <;> rfl)
set_option maxRecDepth 200000 in
theorem g_X2_usedGates_J46 (N : Nat) (x2 : Int32) (σ : Wd) : GO cX2_usedGates RX2 4 1 sc0 rI nJ0 nV0 (f_X2_usedGates_J46 N x2 σ) 46 (mkp 0 4 [(2, .int x2)]) [] σ := by
  exact (by refine GO.to (md_X2_usedGates N) (kl := []) ((fun _ z => absurd z List.not_mem_nil)) 32 ?_ ?_ <;> rfl)
set_option maxRecDepth 200000 in
theorem C_X2_usedGates (N : Nat) : CTI 1 yX2_usedGates cX2_usedGates 4 (some .int) (a_X2_usedGates N) := by
  refine CTI.of (own := RX2) (by decide) rfl (fun as σ r h => ?_)
  unfold a_X2_usedGates at h
  rcases kSE_s h with ⟨r0, rfl, h0⟩ | hn
  ·
    obtain ⟨b1, r1, rfl, h1⟩ := kSI_s h0
    obtain ⟨rfl, h9⟩ := kS0_s h1
    exact ⟨Nat.le_of_ble_eq_true rfl, by refine GO.to (md_X2_usedGates N) (kl := [(5, fun vs st σ => kS0 st (kA 0 4 vs (kI 1 vs (fun x1 => kI 2 vs (fun x2 => kI 3 vs (fun x3 => f_X2_usedGates_L5 N (f_X2_usedGates_J46 N) N x1 x2 x3 σ))))))]) (List.forall_mem_cons.mpr ⟨fun vs st σ => go_kS0 (go_kA (fun h0 => go_kI (fun x1 h1 => go_kI (fun x2 h2 => go_kI (fun x3 h3 => GO.pat [(0, .ref 4), (1, .int x1), (2, .int x2), (3, .int x3)] ⟨h0, h1, h2, h3, trivial⟩ (g_X2_usedGates_L5 N (f_X2_usedGates_J46 N) (g_X2_usedGates_J46 N) N x1 x2 x3 σ)))))), (fun _ z => absurd z List.not_mem_nil)⟩) 32 ?_ ?_ <;> rfl⟩
  cases hn
def T_X2_made : List (Nat × Ent) := [(0, .iload_n 2, 1, []), (1, .iload_n 3, 2, []), (2, .if_icmp .ge 7, 5, [9]), (5, .iload_n 2, 6, []), (6, .goto 4, 9, [10]), (9, .iload_n 3, 10, []), (10, .istore 4, 12, []), (12, .iload_n 2, 13, []), (13, .iload_n 3, 14, []), (14, .if_icmp .ge 7, 17, [21]), (17, .iload_n 3, 18, []), (18, .goto 4, 21, [22]), (21, .iload_n 2, 22, []), (22, .istore 5, 24, []), (24, .iload_n 1, 25, []), (25, .ifCond .ne 28, 28, [53]), (28, .iload 5, 30, []), (30, .bipush 27, 32, []), (32, .if_icmp .lt 21, 35, [53]), (35, .aload_n 0, 36, []), (36, .getfield 11, 39, []), (39, .iload 5, 41, []), (41, .iaload, 42, []), (42, .ifCond .ne 11, 45, [53]), (45, .aload_n 0, 46, []), (46, .getfield 15, 49, []), (49, .iload 5, 51, []), (51, .iaload, 52, []), (52, .ireturn, 53, []), (53, .aload_n 0, 54, []), (54, .getfield 28, 57, []), (57, .iload 5, 59, []), (59, .iaload, 60, []), (60, .istore 6, 62, []), (62, .iconst 0, 63, []), (63, .istore 7, 65, []), (65, .iload 6, 67, []), (67, .bipush 27, 69, []), (69, .if_icmp .lt 52, 72, [121]), (72, .iload 7, 74, []), (74, .sipush 512, 77, []), (77, .if_icmp .ge 44, 80, [121]), (80, .aload_n 0, 81, []), (81, .getfield 15, 84, []), (84, .iload 6, 86, []), (86, .iaload, 87, []), (87, .iload 4, 89, []), (89, .if_icmp .ne 17, 92, [106]), (92, .aload_n 0, 93, []), (93, .getfield 11, 96, []), (96, .iload 6, 98, []), (98, .iaload, 99, []), (99, .iload_n 1, 100, []), (100, .if_icmp .ne 6, 103, [106]), (103, .iload 6, 105, []), (105, .ireturn, 106, []), (106, .aload_n 0, 107, []), (107, .getfield 31, 110, []), (110, .iload 6, 112, []), (112, .iaload, 113, []), (113, .istore 6, 115, []), (115, .iinc 7 1, 118, []), (118, .goto (-53), 121, [65]), (121, .aload_n 0, 122, []), (122, .getfield 49, 125, []), (125, .sipush 512, 128, []), (128, .if_icmp .lt 5, 131, [133]), (131, .iconst 0, 132, []), (132, .ireturn, 133, []), (133, .aload_n 0, 134, []), (134, .getfield 49, 137, []), (137, .istore 6, 139, []), (139, .aload_n 0, 140, []), (140, .dup, 141, []), (141, .getfield 49, 144, []), (144, .iconst 1, 145, []), (145, .iadd, 146, []), (146, .putfield 49, 149, []), (149, .aload_n 0, 150, []), (150, .getfield 11, 153, []), (153, .iload 6, 155, []), (155, .iload_n 1, 156, []), (156, .iastore, 157, []), (157, .aload_n 0, 158, []), (158, .getfield 15, 161, []), (161, .iload 6, 163, []), (163, .iload 4, 165, []), (165, .iastore, 166, []), (166, .aload_n 0, 167, []), (167, .getfield 18, 170, []), (170, .iload 6, 172, []), (172, .iload 5, 174, []), (174, .iastore, 175, []), (175, .aload_n 0, 176, []), (176, .getfield 28, 179, []), (179, .iload 6, 181, []), (181, .iconst 0, 182, []), (182, .iastore, 183, []), (183, .aload_n 0, 184, []), (184, .getfield 31, 187, []), (187, .iload 6, 189, []), (189, .aload_n 0, 190, []), (190, .getfield 28, 193, []), (193, .iload 5, 195, []), (195, .iaload, 196, []), (196, .iastore, 197, []), (197, .aload_n 0, 198, []), (198, .getfield 28, 201, []), (201, .iload 5, 203, []), (203, .iload 6, 205, []), (205, .iastore, 206, []), (206, .iload 6, 208, []), (208, .ireturn, 209, [])]
set_option maxRecDepth 200000 in
theorem tc_X2_made : T_X2_made.all (chk cX2_made) = true := by decide +kernel
def f_X2_made_L65 (N : Nat) (KO121 : Int32 → Int32 → Int32 → Wd → Option (Int32 × Wd)) : Nat → Int32 → Int32 → Int32 → Int32 → Int32 → Wd → Option (Int32 × Wd)
  | 0, _, _, _, _, _, _ => none
  | n + 1, x1, x4, x5, x6, x7, σ => if x6 < 27 then (KO121 x1 x4 x5 σ) else (if 512 ≤ x7 then (KO121 x1 x4 x5 σ) else ((xld σ 19 512 x6).bind fun v2 => if v2 = x4 then ((xld σ 18 512 x6).bind fun v3 => if v3 = x1 then (some (x6, σ)) else ((xld σ 24 512 x6).bind fun v4 => f_X2_made_L65 N KO121 n x1 x4 x5 v4 (x7 + 1) σ)) else ((xld σ 24 512 x6).bind fun v5 => f_X2_made_L65 N KO121 n x1 x4 x5 v5 (x7 + 1) σ)))
def f_X2_made_J121 (N : Nat) (x1 : Int32) (x4 : Int32) (x5 : Int32) (σ : Wd) : Option (Int32 × Wd) :=
  if (σ.1 4 5) < 512 then (let σ6 : Wd := sF σ 4 5 ((σ.1 4 5) + 1)
  (xst σ6 18 512 (σ.1 4 5) x1).bind fun σ7 => (xst σ7 19 512 (σ.1 4 5) x4).bind fun σ8 => (xst σ8 20 512 (σ.1 4 5) x5).bind fun σ9 => (xst σ9 23 512 (σ.1 4 5) 0).bind fun σ10 => (xld σ10 23 512 x5).bind fun v11 => (xst σ10 24 512 (σ.1 4 5) v11).bind fun σ12 => (xst σ12 23 512 x5 (σ.1 4 5)).bind fun σ13 => some (σ.1 4 5, σ13)) else (some (0, σ))
def f_X2_made_J22 (N : Nat) (x1 : Int32) (x4 : Int32) (y0 : Int32) (σ : Wd) : Option (Int32 × Wd) :=
  if x1 = 0 then (if y0 < 27 then ((xld σ 23 512 y0).bind fun v1 => f_X2_made_L65 N (f_X2_made_J121 N) N x1 x4 y0 v1 0 σ) else ((xld σ 18 512 y0).bind fun v14 => if v14 = 0 then ((xld σ 19 512 y0).bind fun v15 => some (v15, σ)) else ((xld σ 23 512 y0).bind fun v16 => f_X2_made_L65 N (f_X2_made_J121 N) N x1 x4 y0 v16 0 σ))) else ((xld σ 23 512 y0).bind fun v17 => f_X2_made_L65 N (f_X2_made_J121 N) N x1 x4 y0 v17 0 σ)
def f_X2_made_J10 (N : Nat) (x1 : Int32) (x2 : Int32) (x3 : Int32) (y0 : Int32) (σ : Wd) : Option (Int32 × Wd) :=
  if x3 ≤ x2 then (f_X2_made_J22 N x1 y0 x2 σ) else (f_X2_made_J22 N x1 y0 x3 σ)
def f_X2_made (N : Nat) (a1 : Int32) (a2 : Int32) (a3 : Int32) (σ : Wd) : Option (Int32 × Wd) :=
  if a3 ≤ a2 then (f_X2_made_J10 N a1 a2 a3 a3 σ) else (f_X2_made_J10 N a1 a2 a3 a2 σ)
def a_X2_made (N : Nat) : List Value → Wd → Option (Int32 × Wd) := fun as σ => kSE 4 as (fun r0 => kSI r0 (fun b1 r1 => kSI r1 (fun b2 r2 => kSI r2 (fun b3 r3 => kS0 r3 (f_X2_made N b1 b2 b3 σ))))) (none)
def ct_X2_made (N : Nat) : List (Nat × Cal) := []
set_option maxRecDepth 200000 in
theorem md_X2_made (N : Nat) : MDOK T_X2_made ft_X2 lt_X2 (ct_X2_made N) cX2_made RX2 1 := ⟨tc_X2_made, fc_X2, lc_X2, (fun _ z => absurd z List.not_mem_nil)⟩
set_option maxRecDepth 200000 in
theorem g_X2_made_L65 (N : Nat) (KO121 : Int32 → Int32 → Int32 → Wd → Option (Int32 × Wd)) (hKO121 : ∀ (x1 : Int32) (x4 : Int32) (x5 : Int32) (σ : Wd), GO cX2_made RX2 8 1 sc0 rI nJ0 nV0 (KO121 x1 x4 x5 σ) 121 (mkp 0 8 [(0, .ref 4), (1, .int x1), (4, .int x4), (5, .int x5)]) [] σ) : ∀ (n : Nat), ∀ (x1 : Int32) (x4 : Int32) (x5 : Int32) (x6 : Int32) (x7 : Int32) (σ : Wd), GO cX2_made RX2 8 1 sc0 rI nJ0 nV0 (f_X2_made_L65 N KO121 n x1 x4 x5 x6 x7 σ) 65 (mkp 0 8 [(0, .ref 4), (1, .int x1), (4, .int x4), (5, .int x5), (6, .int x6), (7, .int x7)]) [] σ
  | 0, x1, x4, x5, x6, x7, σ => GO.none
  | n + 1, x1, x4, x5, x6, x7, σ => by
    exact (by refine GO.to (md_X2_made N) (kl := [(121, fun vs st σ => kS0 st (kA 0 4 vs (kI 1 vs (fun x1 => kI 4 vs (fun x4 => kI 5 vs (fun x5 => KO121 x1 x4 x5 σ)))))), (65, fun vs st σ => kS0 st (kA 0 4 vs (kI 1 vs (fun x1 => kI 4 vs (fun x4 => kI 5 vs (fun x5 => kI 6 vs (fun x6 => kI 7 vs (fun x7 => f_X2_made_L65 N KO121 n x1 x4 x5 x6 x7 σ))))))))]) (List.forall_mem_cons.mpr ⟨fun vs st σ => go_kS0 (go_kA (fun h0 => go_kI (fun x1 h1 => go_kI (fun x4 h4 => go_kI (fun x5 h5 => GO.pat [(0, .ref 4), (1, .int x1), (4, .int x4), (5, .int x5)] ⟨h0, h1, h4, h5, trivial⟩ (hKO121 x1 x4 x5 σ)))))), List.forall_mem_cons.mpr ⟨fun vs st σ => go_kS0 (go_kA (fun h0 => go_kI (fun x1 h1 => go_kI (fun x4 h4 => go_kI (fun x5 h5 => go_kI (fun x6 h6 => go_kI (fun x7 h7 => GO.pat [(0, .ref 4), (1, .int x1), (4, .int x4), (5, .int x5), (6, .int x6), (7, .int x7)] ⟨h0, h1, h4, h5, h6, h7, trivial⟩ (g_X2_made_L65 N KO121 hKO121 n x1 x4 x5 x6 x7 σ)))))))), (fun _ z => absurd z List.not_mem_nil)⟩⟩) 118 ?_ ?_ <;> rfl)
set_option maxRecDepth 200000 in
theorem g_X2_made_J121 (N : Nat) (x1 : Int32) (x4 : Int32) (x5 : Int32) (σ : Wd) : GO cX2_made RX2 8 1 sc0 rI nJ0 nV0 (f_X2_made_J121 N x1 x4 x5 σ) 121 (mkp 0 8 [(0, .ref 4), (1, .int x1), (4, .int x4), (5, .int x5)]) [] σ := by
  exact (by refine GO.to (md_X2_made N) (kl := []) ((fun _ z => absurd z List.not_mem_nil)) 118 ?_ ?_ <;> rfl)
set_option maxRecDepth 200000 in
theorem g_X2_made_J22 (N : Nat) (x1 : Int32) (x4 : Int32) (y0 : Int32) (σ : Wd) : GO cX2_made RX2 8 1 sc0 rI nJ0 nV0 (f_X2_made_J22 N x1 x4 y0 σ) 22 (mkp 0 8 [(0, .ref 4), (1, .int x1), (4, .int x4)]) [.int y0] σ := by
  exact (by refine GO.to (md_X2_made N) (kl := [(65, fun vs st σ => kS0 st (kA 0 4 vs (kI 1 vs (fun x1 => kI 4 vs (fun x4 => kI 5 vs (fun x5 => kI 6 vs (fun x6 => kI 7 vs (fun x7 => f_X2_made_L65 N (f_X2_made_J121 N) N x1 x4 x5 x6 x7 σ))))))))]) (List.forall_mem_cons.mpr ⟨fun vs st σ => go_kS0 (go_kA (fun h0 => go_kI (fun x1 h1 => go_kI (fun x4 h4 => go_kI (fun x5 h5 => go_kI (fun x6 h6 => go_kI (fun x7 h7 => GO.pat [(0, .ref 4), (1, .int x1), (4, .int x4), (5, .int x5), (6, .int x6), (7, .int x7)] ⟨h0, h1, h4, h5, h6, h7, trivial⟩ (g_X2_made_L65 N (f_X2_made_J121 N) (g_X2_made_J121 N) N x1 x4 x5 x6 x7 σ)))))))), (fun _ z => absurd z List.not_mem_nil)⟩) 118 ?_ ?_ <;> rfl)
set_option maxRecDepth 200000 in
theorem g_X2_made_J10 (N : Nat) (x1 : Int32) (x2 : Int32) (x3 : Int32) (y0 : Int32) (σ : Wd) : GO cX2_made RX2 8 1 sc0 rI nJ0 nV0 (f_X2_made_J10 N x1 x2 x3 y0 σ) 10 (mkp 0 8 [(0, .ref 4), (1, .int x1), (2, .int x2), (3, .int x3)]) [.int y0] σ := by
  exact (by refine GO.to (md_X2_made N) (kl := [(22, fun vs st σ => kSti st (fun y0 => kA 0 4 vs (kI 1 vs (fun x1 => kI 4 vs (fun x4 => f_X2_made_J22 N x1 x4 y0 σ)))))]) (List.forall_mem_cons.mpr ⟨fun vs st σ => go_kSti (fun y0 => go_kA (fun h0 => go_kI (fun x1 h1 => go_kI (fun x4 h4 => GO.pat [(0, .ref 4), (1, .int x1), (4, .int x4)] ⟨h0, h1, h4, trivial⟩ (g_X2_made_J22 N x1 x4 y0 σ))))), (fun _ z => absurd z List.not_mem_nil)⟩) 118 ?_ ?_ <;> rfl)
set_option maxRecDepth 200000 in
theorem C_X2_made (N : Nat) : CTI 1 yX2_made cX2_made 8 (some .int) (a_X2_made N) := by
  refine CTI.of (own := RX2) (by decide) rfl (fun as σ r h => ?_)
  unfold a_X2_made at h
  rcases kSE_s h with ⟨r0, rfl, h0⟩ | hn
  ·
    obtain ⟨b1, r1, rfl, h1⟩ := kSI_s h0
    obtain ⟨b2, r2, rfl, h2⟩ := kSI_s h1
    obtain ⟨b3, r3, rfl, h3⟩ := kSI_s h2
    obtain ⟨rfl, h9⟩ := kS0_s h3
    exact ⟨Nat.le_of_ble_eq_true rfl, by refine GO.to (md_X2_made N) (kl := [(10, fun vs st σ => kSti st (fun y0 => kA 0 4 vs (kI 1 vs (fun x1 => kI 2 vs (fun x2 => kI 3 vs (fun x3 => f_X2_made_J10 N x1 x2 x3 y0 σ))))))]) (List.forall_mem_cons.mpr ⟨fun vs st σ => go_kSti (fun y0 => go_kA (fun h0 => go_kI (fun x1 h1 => go_kI (fun x2 h2 => go_kI (fun x3 h3 => GO.pat [(0, .ref 4), (1, .int x1), (2, .int x2), (3, .int x3)] ⟨h0, h1, h2, h3, trivial⟩ (g_X2_made_J10 N x1 x2 x3 y0 σ)))))), (fun _ z => absurd z List.not_mem_nil)⟩) 118 ?_ ?_ <;> rfl⟩
  cases hn
def T_X2_markUsed : List (Nat × Ent) := [(0, .iconst 0, 1, []), (1, .istore_n 1, 2, []), (2, .iload_n 1, 3, []), (3, .aload_n 0, 4, []), (4, .getfield 49, 7, []), (7, .if_icmp .ge 16, 10, [23]), (10, .aload_n 0, 11, []), (11, .getfield 21, 14, []), (14, .iload_n 1, 15, []), (15, .iconst 0, 16, []), (16, .bastore, 17, []), (17, .iinc 1 1, 20, []), (20, .goto (-18), 23, [2]), (23, .iconst 0, 24, []), (24, .istore_n 1, 25, []), (25, .iload_n 1, 26, []), (26, .aload_n 0, 27, []), (27, .getfield 53, 30, []), (30, .if_icmp .gt 20, 33, [50]), (33, .aload_n 0, 34, []), (34, .getfield 21, 37, []), (37, .aload_n 0, 38, []), (38, .iload_n 1, 39, []), (39, .invokevirtual 96, 42, []), (42, .iconst 1, 43, []), (43, .bastore, 44, []), (44, .iinc 1 1, 47, []), (47, .goto (-22), 50, [25]), (50, .aload_n 0, 51, []), (51, .getfield 49, 54, []), (54, .iconst 1, 55, []), (55, .isub, 56, []), (56, .istore_n 1, 57, []), (57, .iload_n 1, 58, []), (58, .bipush 27, 60, []), (60, .if_icmp .lt 42, 63, [102]), (63, .aload_n 0, 64, []), (64, .getfield 21, 67, []), (67, .iload_n 1, 68, []), (68, .baload, 69, []), (69, .ifCond .eq 27, 72, [96]), (72, .aload_n 0, 73, []), (73, .getfield 21, 76, []), (76, .aload_n 0, 77, []), (77, .getfield 15, 80, []), (80, .iload_n 1, 81, []), (81, .iaload, 82, []), (82, .iconst 1, 83, []), (83, .bastore, 84, []), (84, .aload_n 0, 85, []), (85, .getfield 21, 88, []), (88, .aload_n 0, 89, []), (89, .getfield 18, 92, []), (92, .iload_n 1, 93, []), (93, .iaload, 94, []), (94, .iconst 1, 95, []), (95, .bastore, 96, []), (96, .iinc 1 (-1), 99, []), (99, .goto (-42), 102, [57]), (102, .return_, 103, [])]
set_option maxRecDepth 200000 in
theorem tc_X2_markUsed : T_X2_markUsed.all (chk cX2_markUsed) = true := by decide +kernel
def f_X2_markUsed_L2 (N : Nat) (KO23 : Wd → Option Wd) : Nat → Int32 → Wd → Option Wd
  | 0, _, _ => none
  | n + 1, x1, σ => if (σ.1 4 5) ≤ x1 then (KO23 σ) else ((xstZ σ 21 512 x1 0).bind fun σ1 => f_X2_markUsed_L2 N KO23 n (x1 + 1) σ1)
def f_X2_markUsed_L25 (N : Nat) (KO50 : Wd → Option Wd) : Nat → Int32 → Wd → Option Wd
  | 0, _, _ => none
  | n + 1, x1, σ => if (σ.1 4 6) < x1 then (KO50 σ) else ((f_X2_outcomeGate N x1 σ).bind fun p2 => (xstZ p2.2 21 512 p2.1 1).bind fun σ3 => f_X2_markUsed_L25 N KO50 n (x1 + 1) σ3)
def f_X2_markUsed_L57 (N : Nat) (KO102 : Wd → Option Wd) : Nat → Int32 → Wd → Option Wd
  | 0, _, _ => none
  | n + 1, x1, σ => if x1 < 27 then (KO102 σ) else ((xld σ 21 512 x1).bind fun v4 => if v4 = 0 then (f_X2_markUsed_L57 N KO102 n (x1 + (-1)) σ) else ((xld σ 19 512 x1).bind fun v5 => (xstZ σ 21 512 v5 1).bind fun σ6 => (xld σ6 20 512 x1).bind fun v7 => (xstZ σ6 21 512 v7 1).bind fun σ8 => f_X2_markUsed_L57 N KO102 n (x1 + (-1)) σ8))
def f_X2_markUsed_J102 (N : Nat) (σ : Wd) : Option Wd :=
  some σ
def f_X2_markUsed_J50 (N : Nat) (σ : Wd) : Option Wd :=
  f_X2_markUsed_L57 N (f_X2_markUsed_J102 N) N ((σ.1 4 5) - 1) σ
def f_X2_markUsed_J23 (N : Nat) (σ : Wd) : Option Wd :=
  f_X2_markUsed_L25 N (f_X2_markUsed_J50 N) N 0 σ
def f_X2_markUsed (N : Nat) (σ : Wd) : Option Wd :=
  f_X2_markUsed_L2 N (f_X2_markUsed_J23 N) N 0 σ
def a_X2_markUsed (N : Nat) : List Value → Wd → Option Wd := fun as σ => kSE 4 as (fun r0 => kS0 r0 (f_X2_markUsed N σ)) (none)
set_option maxRecDepth 200000 in
theorem k_X2_96 : calchk RX2 96 2 2 yX2_outcomeGate cX2_outcomeGate 2 (some .int) = true := by decide +kernel
def ct_X2_markUsed (N : Nat) : List (Nat × Cal) := [(96, 2, 2, .inl (a_X2_outcomeGate N))]
set_option maxRecDepth 200000 in
theorem md_X2_markUsed (N : Nat) : MDOK T_X2_markUsed ft_X2 lt_X2 (ct_X2_markUsed N) cX2_markUsed RX2 2 := ⟨tc_X2_markUsed, fc_X2, lc_X2, List.forall_mem_cons.mpr ⟨Or.inl ⟨yX2_outcomeGate, cX2_outcomeGate, 2, (some .int), 1, k_X2_96, Nat.le_of_ble_eq_true rfl, C_X2_outcomeGate N⟩, (fun _ z => absurd z List.not_mem_nil)⟩⟩
set_option maxRecDepth 200000 in
theorem g_X2_markUsed_L2 (N : Nat) (KO23 : Wd → Option Wd) (hKO23 : ∀ (σ : Wd), GO cX2_markUsed RX2 2 2 sc0 nI0 nJ0 some (KO23 σ) 23 (mkp 0 2 [(0, .ref 4)]) [] σ) : ∀ (n : Nat), ∀ (x1 : Int32) (σ : Wd), GO cX2_markUsed RX2 2 2 sc0 nI0 nJ0 some (f_X2_markUsed_L2 N KO23 n x1 σ) 2 (mkp 0 2 [(0, .ref 4), (1, .int x1)]) [] σ
  | 0, x1, σ => GO.none
  | n + 1, x1, σ => by
    exact (by refine GO.to (md_X2_markUsed N) (kl := [(23, fun vs st σ => kS0 st (kA 0 4 vs (KO23 σ))), (2, fun vs st σ => kS0 st (kA 0 4 vs (kI 1 vs (fun x1 => f_X2_markUsed_L2 N KO23 n x1 σ))))]) (List.forall_mem_cons.mpr ⟨fun vs st σ => go_kS0 (go_kA (fun h0 => GO.pat [(0, .ref 4)] ⟨h0, trivial⟩ (hKO23 σ))), List.forall_mem_cons.mpr ⟨fun vs st σ => go_kS0 (go_kA (fun h0 => go_kI (fun x1 h1 => GO.pat [(0, .ref 4), (1, .int x1)] ⟨h0, h1, trivial⟩ (g_X2_markUsed_L2 N KO23 hKO23 n x1 σ)))), (fun _ z => absurd z List.not_mem_nil)⟩⟩) 65 ?_ ?_ <;> rfl)
set_option maxRecDepth 200000 in
theorem g_X2_markUsed_L25 (N : Nat) (KO50 : Wd → Option Wd) (hKO50 : ∀ (σ : Wd), GO cX2_markUsed RX2 2 2 sc0 nI0 nJ0 some (KO50 σ) 50 (mkp 0 2 [(0, .ref 4)]) [] σ) : ∀ (n : Nat), ∀ (x1 : Int32) (σ : Wd), GO cX2_markUsed RX2 2 2 sc0 nI0 nJ0 some (f_X2_markUsed_L25 N KO50 n x1 σ) 25 (mkp 0 2 [(0, .ref 4), (1, .int x1)]) [] σ
  | 0, x1, σ => GO.none
  | n + 1, x1, σ => by
    exact (by refine GO.to (md_X2_markUsed N) (kl := [(50, fun vs st σ => kS0 st (kA 0 4 vs (KO50 σ))), (25, fun vs st σ => kS0 st (kA 0 4 vs (kI 1 vs (fun x1 => f_X2_markUsed_L25 N KO50 n x1 σ))))]) (List.forall_mem_cons.mpr ⟨fun vs st σ => go_kS0 (go_kA (fun h0 => GO.pat [(0, .ref 4)] ⟨h0, trivial⟩ (hKO50 σ))), List.forall_mem_cons.mpr ⟨fun vs st σ => go_kS0 (go_kA (fun h0 => go_kI (fun x1 h1 => GO.pat [(0, .ref 4), (1, .int x1)] ⟨h0, h1, trivial⟩ (g_X2_markUsed_L25 N KO50 hKO50 n x1 σ)))), (fun _ z => absurd z List.not_mem_nil)⟩⟩) 65 ?_ ?_ <;> rfl)
set_option maxRecDepth 200000 in
theorem g_X2_markUsed_L57 (N : Nat) (KO102 : Wd → Option Wd) (hKO102 : ∀ (σ : Wd), GO cX2_markUsed RX2 2 2 sc0 nI0 nJ0 some (KO102 σ) 102 (mkp 0 2 []) [] σ) : ∀ (n : Nat), ∀ (x1 : Int32) (σ : Wd), GO cX2_markUsed RX2 2 2 sc0 nI0 nJ0 some (f_X2_markUsed_L57 N KO102 n x1 σ) 57 (mkp 0 2 [(0, .ref 4), (1, .int x1)]) [] σ
  | 0, x1, σ => GO.none
  | n + 1, x1, σ => by
    exact (by refine GO.to (md_X2_markUsed N) (kl := [(102, fun vs st σ => kS0 st (KO102 σ)), (57, fun vs st σ => kS0 st (kA 0 4 vs (kI 1 vs (fun x1 => f_X2_markUsed_L57 N KO102 n x1 σ))))]) (List.forall_mem_cons.mpr ⟨fun vs st σ => go_kS0 (GO.pat [] trivial (hKO102 σ)), List.forall_mem_cons.mpr ⟨fun vs st σ => go_kS0 (go_kA (fun h0 => go_kI (fun x1 h1 => GO.pat [(0, .ref 4), (1, .int x1)] ⟨h0, h1, trivial⟩ (g_X2_markUsed_L57 N KO102 hKO102 n x1 σ)))), (fun _ z => absurd z List.not_mem_nil)⟩⟩) 65 ?_ ?_ <;> rfl)
set_option maxRecDepth 200000 in
theorem g_X2_markUsed_J102 (N : Nat) (σ : Wd) : GO cX2_markUsed RX2 2 2 sc0 nI0 nJ0 some (f_X2_markUsed_J102 N σ) 102 (mkp 0 2 []) [] σ := by
  exact (by refine GO.to (md_X2_markUsed N) (kl := []) ((fun _ z => absurd z List.not_mem_nil)) 65 ?_ ?_ <;> rfl)
set_option maxRecDepth 200000 in
theorem g_X2_markUsed_J50 (N : Nat) (σ : Wd) : GO cX2_markUsed RX2 2 2 sc0 nI0 nJ0 some (f_X2_markUsed_J50 N σ) 50 (mkp 0 2 [(0, .ref 4)]) [] σ := by
  exact (by refine GO.to (md_X2_markUsed N) (kl := [(57, fun vs st σ => kS0 st (kA 0 4 vs (kI 1 vs (fun x1 => f_X2_markUsed_L57 N (f_X2_markUsed_J102 N) N x1 σ))))]) (List.forall_mem_cons.mpr ⟨fun vs st σ => go_kS0 (go_kA (fun h0 => go_kI (fun x1 h1 => GO.pat [(0, .ref 4), (1, .int x1)] ⟨h0, h1, trivial⟩ (g_X2_markUsed_L57 N (f_X2_markUsed_J102 N) (g_X2_markUsed_J102 N) N x1 σ)))), (fun _ z => absurd z List.not_mem_nil)⟩) 65 ?_ ?_ <;> rfl)
set_option maxRecDepth 200000 in
theorem g_X2_markUsed_J23 (N : Nat) (σ : Wd) : GO cX2_markUsed RX2 2 2 sc0 nI0 nJ0 some (f_X2_markUsed_J23 N σ) 23 (mkp 0 2 [(0, .ref 4)]) [] σ := by
  exact (by refine GO.to (md_X2_markUsed N) (kl := [(25, fun vs st σ => kS0 st (kA 0 4 vs (kI 1 vs (fun x1 => f_X2_markUsed_L25 N (f_X2_markUsed_J50 N) N x1 σ))))]) (List.forall_mem_cons.mpr ⟨fun vs st σ => go_kS0 (go_kA (fun h0 => go_kI (fun x1 h1 => GO.pat [(0, .ref 4), (1, .int x1)] ⟨h0, h1, trivial⟩ (g_X2_markUsed_L25 N (f_X2_markUsed_J50 N) (g_X2_markUsed_J50 N) N x1 σ)))), (fun _ z => absurd z List.not_mem_nil)⟩) 65 ?_ ?_ <;> rfl)
set_option maxRecDepth 200000 in
theorem C_X2_markUsed (N : Nat) : CTV 2 yX2_markUsed cX2_markUsed 2 none (a_X2_markUsed N) := by
  refine CTV.of (own := RX2) (by decide) rfl (fun as σ r h => ?_)
  unfold a_X2_markUsed at h
  rcases kSE_s h with ⟨r0, rfl, h0⟩ | hn
  ·
    obtain ⟨rfl, h9⟩ := kS0_s h0
    exact ⟨Nat.le_of_ble_eq_true rfl, by refine GO.to (md_X2_markUsed N) (kl := [(2, fun vs st σ => kS0 st (kA 0 4 vs (kI 1 vs (fun x1 => f_X2_markUsed_L2 N (f_X2_markUsed_J23 N) N x1 σ))))]) (List.forall_mem_cons.mpr ⟨fun vs st σ => go_kS0 (go_kA (fun h0 => go_kI (fun x1 h1 => GO.pat [(0, .ref 4), (1, .int x1)] ⟨h0, h1, trivial⟩ (g_X2_markUsed_L2 N (f_X2_markUsed_J23 N) (g_X2_markUsed_J23 N) N x1 σ)))), (fun _ z => absurd z List.not_mem_nil)⟩) 65 ?_ ?_ <;> rfl⟩
  cases hn
def T_X2_not : List (Nat × Ent) := [(0, .iload_n 1, 1, []), (1, .ifCond .ne 5, 4, [6]), (4, .iconst 1, 5, []), (5, .ireturn, 6, []), (6, .iload_n 1, 7, []), (7, .iconst 1, 8, []), (8, .if_icmp .ne 7, 11, [15]), (11, .iconst 0, 12, []), (12, .goto 10, 15, [22]), (15, .aload_n 0, 16, []), (16, .iconst 0, 17, []), (17, .iload_n 1, 18, []), (18, .iload_n 1, 19, []), (19, .invokevirtual 120, 22, []), (22, .ireturn, 23, [])]
set_option maxRecDepth 200000 in
theorem tc_X2_not : T_X2_not.all (chk cX2_not) = true := by decide +kernel
def f_X2_not (N : Nat) (a1 : Int32) (σ : Wd) : Option (Int32 × Wd) :=
  if a1 = 0 then (some (1, σ)) else (if a1 = 1 then (some (0, σ)) else ((f_X2_made N 0 a1 a1 σ).bind fun p1 => some (p1.1, p1.2)))
def a_X2_not (N : Nat) : List Value → Wd → Option (Int32 × Wd) := fun as σ => kSE 4 as (fun r0 => kSI r0 (fun b1 r1 => kS0 r1 (f_X2_not N b1 σ))) (none)
set_option maxRecDepth 200000 in
theorem k_X2_120 : calchk RX2 120 4 2 yX2_made cX2_made 8 (some .int) = true := by decide +kernel
def ct_X2_not (N : Nat) : List (Nat × Cal) := [(120, 4, 2, .inl (a_X2_made N))]
set_option maxRecDepth 200000 in
theorem md_X2_not (N : Nat) : MDOK T_X2_not ft_X2 lt_X2 (ct_X2_not N) cX2_not RX2 2 := ⟨tc_X2_not, fc_X2, lc_X2, List.forall_mem_cons.mpr ⟨Or.inl ⟨yX2_made, cX2_made, 8, (some .int), 1, k_X2_120, Nat.le_of_ble_eq_true rfl, C_X2_made N⟩, (fun _ z => absurd z List.not_mem_nil)⟩⟩
set_option maxRecDepth 200000 in
theorem C_X2_not (N : Nat) : CTI 2 yX2_not cX2_not 2 (some .int) (a_X2_not N) := by
  refine CTI.of (own := RX2) (by decide) rfl (fun as σ r h => ?_)
  unfold a_X2_not at h
  rcases kSE_s h with ⟨r0, rfl, h0⟩ | hn
  ·
    obtain ⟨b1, r1, rfl, h1⟩ := kSI_s h0
    obtain ⟨rfl, h9⟩ := kS0_s h1
    exact ⟨Nat.le_of_ble_eq_true rfl, by refine GO.to (md_X2_not N) (kl := []) ((fun _ z => absurd z List.not_mem_nil)) 20 ?_ ?_ <;> rfl⟩
  cases hn
def T_X2_and : List (Nat × Ent) := [(0, .iload_n 1, 1, []), (1, .ifCond .eq 7, 4, [8]), (4, .iload_n 2, 5, []), (5, .ifCond .ne 5, 8, [10]), (8, .iconst 0, 9, []), (9, .ireturn, 10, []), (10, .iload_n 1, 11, []), (11, .iconst 1, 12, []), (12, .if_icmp .ne 5, 15, [17]), (15, .iload_n 2, 16, []), (16, .ireturn, 17, []), (17, .iload_n 2, 18, []), (18, .iconst 1, 19, []), (19, .if_icmp .eq 8, 22, [27]), (22, .iload_n 1, 23, []), (23, .iload_n 2, 24, []), (24, .if_icmp .ne 7, 27, [31]), (27, .iload_n 1, 28, []), (28, .goto 10, 31, [38]), (31, .aload_n 0, 32, []), (32, .iconst 1, 33, []), (33, .iload_n 1, 34, []), (34, .iload_n 2, 35, []), (35, .invokevirtual 120, 38, []), (38, .ireturn, 39, [])]
set_option maxRecDepth 200000 in
theorem tc_X2_and : T_X2_and.all (chk cX2_and) = true := by decide +kernel
def f_X2_and (N : Nat) (a1 : Int32) (a2 : Int32) (σ : Wd) : Option (Int32 × Wd) :=
  if a1 = 0 then (some (0, σ)) else (if a2 = 0 then (some (0, σ)) else (if a1 = 1 then (some (a2, σ)) else (if a2 = 1 then (some (a1, σ)) else (if a1 = a2 then (some (a1, σ)) else ((f_X2_made N 1 a1 a2 σ).bind fun p1 => some (p1.1, p1.2))))))
def a_X2_and (N : Nat) : List Value → Wd → Option (Int32 × Wd) := fun as σ => kSE 4 as (fun r0 => kSI r0 (fun b1 r1 => kSI r1 (fun b2 r2 => kS0 r2 (f_X2_and N b1 b2 σ)))) (none)
def ct_X2_and (N : Nat) : List (Nat × Cal) := [(120, 4, 2, .inl (a_X2_made N))]
set_option maxRecDepth 200000 in
theorem md_X2_and (N : Nat) : MDOK T_X2_and ft_X2 lt_X2 (ct_X2_and N) cX2_and RX2 2 := ⟨tc_X2_and, fc_X2, lc_X2, List.forall_mem_cons.mpr ⟨Or.inl ⟨yX2_made, cX2_made, 8, (some .int), 1, k_X2_120, Nat.le_of_ble_eq_true rfl, C_X2_made N⟩, (fun _ z => absurd z List.not_mem_nil)⟩⟩
set_option maxRecDepth 200000 in
theorem C_X2_and (N : Nat) : CTI 2 yX2_and cX2_and 3 (some .int) (a_X2_and N) := by
  refine CTI.of (own := RX2) (by decide) rfl (fun as σ r h => ?_)
  unfold a_X2_and at h
  rcases kSE_s h with ⟨r0, rfl, h0⟩ | hn
  ·
    obtain ⟨b1, r1, rfl, h1⟩ := kSI_s h0
    obtain ⟨b2, r2, rfl, h2⟩ := kSI_s h1
    obtain ⟨rfl, h9⟩ := kS0_s h2
    exact ⟨Nat.le_of_ble_eq_true rfl, by refine GO.to (md_X2_and N) (kl := []) ((fun _ z => absurd z List.not_mem_nil)) 30 ?_ ?_ <;> rfl⟩
  cases hn
def T_X2_or : List (Nat × Ent) := [(0, .iload_n 1, 1, []), (1, .iconst 1, 2, []), (2, .if_icmp .eq 8, 5, [10]), (5, .iload_n 2, 6, []), (6, .iconst 1, 7, []), (7, .if_icmp .ne 5, 10, [12]), (10, .iconst 1, 11, []), (11, .ireturn, 12, []), (12, .iload_n 1, 13, []), (13, .ifCond .ne 5, 16, [18]), (16, .iload_n 2, 17, []), (17, .ireturn, 18, []), (18, .iload_n 2, 19, []), (19, .ifCond .eq 8, 22, [27]), (22, .iload_n 1, 23, []), (23, .iload_n 2, 24, []), (24, .if_icmp .ne 7, 27, [31]), (27, .iload_n 1, 28, []), (28, .goto 10, 31, [38]), (31, .aload_n 0, 32, []), (32, .iconst 2, 33, []), (33, .iload_n 1, 34, []), (34, .iload_n 2, 35, []), (35, .invokevirtual 120, 38, []), (38, .ireturn, 39, [])]
set_option maxRecDepth 200000 in
theorem tc_X2_or : T_X2_or.all (chk cX2_or) = true := by decide +kernel
def f_X2_or (N : Nat) (a1 : Int32) (a2 : Int32) (σ : Wd) : Option (Int32 × Wd) :=
  if a1 = 1 then (some (1, σ)) else (if a2 = 1 then (some (1, σ)) else (if a1 = 0 then (some (a2, σ)) else (if a2 = 0 then (some (a1, σ)) else (if a1 = a2 then (some (a1, σ)) else ((f_X2_made N 2 a1 a2 σ).bind fun p1 => some (p1.1, p1.2))))))
def a_X2_or (N : Nat) : List Value → Wd → Option (Int32 × Wd) := fun as σ => kSE 4 as (fun r0 => kSI r0 (fun b1 r1 => kSI r1 (fun b2 r2 => kS0 r2 (f_X2_or N b1 b2 σ)))) (none)
def ct_X2_or (N : Nat) : List (Nat × Cal) := [(120, 4, 2, .inl (a_X2_made N))]
set_option maxRecDepth 200000 in
theorem md_X2_or (N : Nat) : MDOK T_X2_or ft_X2 lt_X2 (ct_X2_or N) cX2_or RX2 2 := ⟨tc_X2_or, fc_X2, lc_X2, List.forall_mem_cons.mpr ⟨Or.inl ⟨yX2_made, cX2_made, 8, (some .int), 1, k_X2_120, Nat.le_of_ble_eq_true rfl, C_X2_made N⟩, (fun _ z => absurd z List.not_mem_nil)⟩⟩
set_option maxRecDepth 200000 in
theorem C_X2_or (N : Nat) : CTI 2 yX2_or cX2_or 3 (some .int) (a_X2_or N) := by
  refine CTI.of (own := RX2) (by decide) rfl (fun as σ r h => ?_)
  unfold a_X2_or at h
  rcases kSE_s h with ⟨r0, rfl, h0⟩ | hn
  ·
    obtain ⟨b1, r1, rfl, h1⟩ := kSI_s h0
    obtain ⟨b2, r2, rfl, h2⟩ := kSI_s h1
    obtain ⟨rfl, h9⟩ := kS0_s h2
    exact ⟨Nat.le_of_ble_eq_true rfl, by refine GO.to (md_X2_or N) (kl := []) ((fun _ z => absurd z List.not_mem_nil)) 30 ?_ ?_ <;> rfl⟩
  cases hn
def T_X2_xor : List (Nat × Ent) := [(0, .iload_n 1, 1, []), (1, .iload_n 2, 2, []), (2, .if_icmp .ne 5, 5, [7]), (5, .iconst 0, 6, []), (6, .ireturn, 7, []), (7, .iload_n 1, 8, []), (8, .ifCond .ne 5, 11, [13]), (11, .iload_n 2, 12, []), (12, .ireturn, 13, []), (13, .iload_n 2, 14, []), (14, .ifCond .ne 5, 17, [19]), (17, .iload_n 1, 18, []), (18, .ireturn, 19, []), (19, .iload_n 1, 20, []), (20, .iconst 1, 21, []), (21, .if_icmp .ne 11, 24, [32]), (24, .aload_n 0, 25, []), (25, .iconst 0, 26, []), (26, .iload_n 2, 27, []), (27, .iload_n 2, 28, []), (28, .invokevirtual 120, 31, []), (31, .ireturn, 32, []), (32, .iload_n 2, 33, []), (33, .iconst 1, 34, []), (34, .if_icmp .ne 13, 37, [47]), (37, .aload_n 0, 38, []), (38, .iconst 0, 39, []), (39, .iload_n 1, 40, []), (40, .iload_n 1, 41, []), (41, .invokevirtual 120, 44, []), (44, .goto 10, 47, [54]), (47, .aload_n 0, 48, []), (48, .iconst 3, 49, []), (49, .iload_n 1, 50, []), (50, .iload_n 2, 51, []), (51, .invokevirtual 120, 54, []), (54, .ireturn, 55, [])]
set_option maxRecDepth 200000 in
theorem tc_X2_xor : T_X2_xor.all (chk cX2_xor) = true := by decide +kernel
def f_X2_xor (N : Nat) (a1 : Int32) (a2 : Int32) (σ : Wd) : Option (Int32 × Wd) :=
  if a1 = a2 then (some (0, σ)) else (if a1 = 0 then (some (a2, σ)) else (if a2 = 0 then (some (a1, σ)) else (if a1 = 1 then ((f_X2_made N 0 a2 a2 σ).bind fun p1 => some (p1.1, p1.2)) else (if a2 = 1 then ((f_X2_made N 0 a1 a1 σ).bind fun p2 => some (p2.1, p2.2)) else ((f_X2_made N 3 a1 a2 σ).bind fun p3 => some (p3.1, p3.2))))))
def a_X2_xor (N : Nat) : List Value → Wd → Option (Int32 × Wd) := fun as σ => kSE 4 as (fun r0 => kSI r0 (fun b1 r1 => kSI r1 (fun b2 r2 => kS0 r2 (f_X2_xor N b1 b2 σ)))) (none)
def ct_X2_xor (N : Nat) : List (Nat × Cal) := [(120, 4, 2, .inl (a_X2_made N))]
set_option maxRecDepth 200000 in
theorem md_X2_xor (N : Nat) : MDOK T_X2_xor ft_X2 lt_X2 (ct_X2_xor N) cX2_xor RX2 2 := ⟨tc_X2_xor, fc_X2, lc_X2, List.forall_mem_cons.mpr ⟨Or.inl ⟨yX2_made, cX2_made, 8, (some .int), 1, k_X2_120, Nat.le_of_ble_eq_true rfl, C_X2_made N⟩, (fun _ z => absurd z List.not_mem_nil)⟩⟩
set_option maxRecDepth 200000 in
theorem C_X2_xor (N : Nat) : CTI 2 yX2_xor cX2_xor 3 (some .int) (a_X2_xor N) := by
  refine CTI.of (own := RX2) (by decide) rfl (fun as σ r h => ?_)
  unfold a_X2_xor at h
  rcases kSE_s h with ⟨r0, rfl, h0⟩ | hn
  ·
    obtain ⟨b1, r1, rfl, h1⟩ := kSI_s h0
    obtain ⟨b2, r2, rfl, h2⟩ := kSI_s h1
    obtain ⟨rfl, h9⟩ := kS0_s h2
    exact ⟨Nat.le_of_ble_eq_true rfl, by refine GO.to (md_X2_xor N) (kl := []) ((fun _ z => absurd z List.not_mem_nil)) 42 ?_ ?_ <;> rfl⟩
  cases hn
def T_X2_ripple : List (Nat × Ent) := [(0, .iload_n 3, 1, []), (1, .istore 5, 3, []), (3, .iload_n 1, 4, []), (4, .istore 6, 6, []), (6, .iload 6, 8, []), (8, .iload_n 2, 9, []), (9, .if_icmp .gt 53, 12, [62]), (12, .aload 4, 14, []), (14, .iload 6, 16, []), (16, .aload_n 0, 17, []), (17, .aload_n 0, 18, []), (18, .getfield 37, 21, []), (21, .iload 6, 23, []), (23, .iaload, 24, []), (24, .iload 5, 26, []), (26, .invokevirtual 76, 29, []), (29, .iastore, 30, []), (30, .aload_n 0, 31, []), (31, .aload_n 0, 32, []), (32, .getfield 40, 35, []), (35, .iload 6, 37, []), (37, .iaload, 38, []), (38, .aload_n 0, 39, []), (39, .aload_n 0, 40, []), (40, .getfield 37, 43, []), (43, .iload 6, 45, []), (45, .iaload, 46, []), (46, .iload 5, 48, []), (48, .invokevirtual 80, 51, []), (51, .invokevirtual 110, 54, []), (54, .istore 5, 56, []), (56, .iinc 6 1, 59, []), (59, .goto (-53), 62, [6]), (62, .iload 5, 64, []), (64, .ireturn, 65, [])]
set_option maxRecDepth 200000 in
theorem tc_X2_ripple : T_X2_ripple.all (chk cX2_ripple) = true := by decide +kernel
def f_X2_ripple_L6 (N : Nat) (K4 K4L : Nat) (KO62 : Int32 → Wd → Option (Int32 × Wd)) : Nat → Int32 → Int32 → Int32 → Wd → Option (Int32 × Wd)
  | 0, _, _, _, _ => none
  | n + 1, x2, x5, x6, σ => if x2 < x6 then (KO62 x5 σ) else ((xld σ 26 12 x6).bind fun v1 => (f_X2_xor N v1 x5 σ).bind fun p2 => (xst p2.2 K4 K4L x6 p2.1).bind fun σ3 => (xld σ3 27 12 x6).bind fun v4 => (xld σ3 26 12 x6).bind fun v5 => (f_X2_and N v5 x5 σ3).bind fun p6 => (f_X2_or N v4 p6.1 p6.2).bind fun p7 => f_X2_ripple_L6 N K4 K4L KO62 n x2 p7.1 (x6 + 1) p7.2)
def f_X2_ripple_J62 (N : Nat) (K4 K4L : Nat) (x5 : Int32) (σ : Wd) : Option (Int32 × Wd) :=
  some (x5, σ)
def f_X2_ripple (N : Nat) (K4 K4L : Nat) (a1 : Int32) (a2 : Int32) (a3 : Int32) (σ : Wd) : Option (Int32 × Wd) :=
  f_X2_ripple_L6 N K4 K4L (f_X2_ripple_J62 N K4 K4L) N a2 a3 a1 σ
def a_X2_ripple (N : Nat) : List Value → Wd → Option (Int32 × Wd) := fun as σ => kSE 4 as (fun r0 => kSI r0 (fun b1 r1 => kSI r1 (fun b2 r2 => kSI r2 (fun b3 r3 => kSE 22 r3 (fun r4 => kS0 r4 (f_X2_ripple N 22 12 b1 b2 b3 σ)) (kSE 28 r3 (fun r4 => kS0 r4 (f_X2_ripple N 28 12 b1 b2 b3 σ)) (kSE 29 r3 (fun r4 => kS0 r4 (f_X2_ripple N 29 12 b1 b2 b3 σ)) (none))))))) (none)
set_option maxRecDepth 200000 in
theorem k_X2_76 : calchk RX2 76 3 2 yX2_xor cX2_xor 3 (some .int) = true := by decide +kernel
set_option maxRecDepth 200000 in
theorem k_X2_80 : calchk RX2 80 3 2 yX2_and cX2_and 3 (some .int) = true := by decide +kernel
set_option maxRecDepth 200000 in
theorem k_X2_110 : calchk RX2 110 3 2 yX2_or cX2_or 3 (some .int) = true := by decide +kernel
def ct_X2_ripple (N : Nat) : List (Nat × Cal) := [(76, 3, 2, .inl (a_X2_xor N)), (80, 3, 2, .inl (a_X2_and N)), (110, 3, 2, .inl (a_X2_or N))]
set_option maxRecDepth 200000 in
theorem md_X2_ripple (N : Nat) : MDOK T_X2_ripple ft_X2 lt_X2 (ct_X2_ripple N) cX2_ripple RX2 3 := ⟨tc_X2_ripple, fc_X2, lc_X2, List.forall_mem_cons.mpr ⟨Or.inl ⟨yX2_xor, cX2_xor, 3, (some .int), 2, k_X2_76, Nat.le_of_ble_eq_true rfl, C_X2_xor N⟩, List.forall_mem_cons.mpr ⟨Or.inl ⟨yX2_and, cX2_and, 3, (some .int), 2, k_X2_80, Nat.le_of_ble_eq_true rfl, C_X2_and N⟩, List.forall_mem_cons.mpr ⟨Or.inl ⟨yX2_or, cX2_or, 3, (some .int), 2, k_X2_110, Nat.le_of_ble_eq_true rfl, C_X2_or N⟩, (fun _ z => absurd z List.not_mem_nil)⟩⟩⟩⟩
set_option maxRecDepth 200000 in
theorem g_X2_ripple_L6 (N : Nat) (K4 K4L : Nat) (hK4 : (K4 = 22 ∧ K4L = 12) ∨ (K4 = 28 ∧ K4L = 12) ∨ (K4 = 29 ∧ K4L = 12)) (KO62 : Int32 → Wd → Option (Int32 × Wd)) (hKO62 : ∀ (x5 : Int32) (σ : Wd), GO cX2_ripple RX2 7 3 sc0 rI nJ0 nV0 (KO62 x5 σ) 62 (mkp 0 7 [(5, .int x5)]) [] σ) : ∀ (n : Nat), ∀ (x2 : Int32) (x5 : Int32) (x6 : Int32) (σ : Wd), GO cX2_ripple RX2 7 3 sc0 rI nJ0 nV0 (f_X2_ripple_L6 N K4 K4L KO62 n x2 x5 x6 σ) 6 (mkp 0 7 [(0, .ref 4), (2, .int x2), (4, .ref K4), (5, .int x5), (6, .int x6)]) [] σ
  | 0, x2, x5, x6, σ => GO.none
  | n + 1, x2, x5, x6, σ => by
    rcases hK4 with ⟨rfl, rfl⟩ | ⟨rfl, rfl⟩ | ⟨rfl, rfl⟩
    · exact (by refine GO.to (md_X2_ripple N) (kl := [(62, fun vs st σ => kS0 st (kI 5 vs (fun x5 => KO62 x5 σ))), (6, fun vs st σ => kS0 st (kA 0 4 vs (kI 2 vs (fun x2 => kA 4 22 vs (kI 5 vs (fun x5 => kI 6 vs (fun x6 => f_X2_ripple_L6 N 22 12 KO62 n x2 x5 x6 σ)))))))]) (List.forall_mem_cons.mpr ⟨fun vs st σ => go_kS0 (go_kI (fun x5 h5 => GO.pat [(5, .int x5)] ⟨h5, trivial⟩ (hKO62 x5 σ))), List.forall_mem_cons.mpr ⟨fun vs st σ => go_kS0 (go_kA (fun h0 => go_kI (fun x2 h2 => go_kA (fun h4 => go_kI (fun x5 h5 => go_kI (fun x6 h6 => GO.pat [(0, .ref 4), (2, .int x2), (4, .ref 22), (5, .int x5), (6, .int x6)] ⟨h0, h2, h4, h5, h6, trivial⟩ (g_X2_ripple_L6 N 22 12 (Or.inl ⟨rfl, rfl⟩) KO62 hKO62 n x2 x5 x6 σ))))))), (fun _ z => absurd z List.not_mem_nil)⟩⟩) 40 ?_ ?_ <;> rfl)
    · exact (by refine GO.to (md_X2_ripple N) (kl := [(62, fun vs st σ => kS0 st (kI 5 vs (fun x5 => KO62 x5 σ))), (6, fun vs st σ => kS0 st (kA 0 4 vs (kI 2 vs (fun x2 => kA 4 28 vs (kI 5 vs (fun x5 => kI 6 vs (fun x6 => f_X2_ripple_L6 N 28 12 KO62 n x2 x5 x6 σ)))))))]) (List.forall_mem_cons.mpr ⟨fun vs st σ => go_kS0 (go_kI (fun x5 h5 => GO.pat [(5, .int x5)] ⟨h5, trivial⟩ (hKO62 x5 σ))), List.forall_mem_cons.mpr ⟨fun vs st σ => go_kS0 (go_kA (fun h0 => go_kI (fun x2 h2 => go_kA (fun h4 => go_kI (fun x5 h5 => go_kI (fun x6 h6 => GO.pat [(0, .ref 4), (2, .int x2), (4, .ref 28), (5, .int x5), (6, .int x6)] ⟨h0, h2, h4, h5, h6, trivial⟩ (g_X2_ripple_L6 N 28 12 (Or.inr (Or.inl ⟨rfl, rfl⟩)) KO62 hKO62 n x2 x5 x6 σ))))))), (fun _ z => absurd z List.not_mem_nil)⟩⟩) 40 ?_ ?_ <;> rfl)
    · exact (by refine GO.to (md_X2_ripple N) (kl := [(62, fun vs st σ => kS0 st (kI 5 vs (fun x5 => KO62 x5 σ))), (6, fun vs st σ => kS0 st (kA 0 4 vs (kI 2 vs (fun x2 => kA 4 29 vs (kI 5 vs (fun x5 => kI 6 vs (fun x6 => f_X2_ripple_L6 N 29 12 KO62 n x2 x5 x6 σ)))))))]) (List.forall_mem_cons.mpr ⟨fun vs st σ => go_kS0 (go_kI (fun x5 h5 => GO.pat [(5, .int x5)] ⟨h5, trivial⟩ (hKO62 x5 σ))), List.forall_mem_cons.mpr ⟨fun vs st σ => go_kS0 (go_kA (fun h0 => go_kI (fun x2 h2 => go_kA (fun h4 => go_kI (fun x5 h5 => go_kI (fun x6 h6 => GO.pat [(0, .ref 4), (2, .int x2), (4, .ref 29), (5, .int x5), (6, .int x6)] ⟨h0, h2, h4, h5, h6, trivial⟩ (g_X2_ripple_L6 N 29 12 (Or.inr (Or.inr ⟨rfl, rfl⟩)) KO62 hKO62 n x2 x5 x6 σ))))))), (fun _ z => absurd z List.not_mem_nil)⟩⟩) 40 ?_ ?_ <;> rfl)
set_option maxRecDepth 200000 in
theorem g_X2_ripple_J62 (N : Nat) (K4 K4L : Nat) (hK4 : (K4 = 22 ∧ K4L = 12) ∨ (K4 = 28 ∧ K4L = 12) ∨ (K4 = 29 ∧ K4L = 12)) (x5 : Int32) (σ : Wd) : GO cX2_ripple RX2 7 3 sc0 rI nJ0 nV0 (f_X2_ripple_J62 N K4 K4L x5 σ) 62 (mkp 0 7 [(5, .int x5)]) [] σ := by
  rcases hK4 with ⟨rfl, rfl⟩ | ⟨rfl, rfl⟩ | ⟨rfl, rfl⟩
  · exact (by refine GO.to (md_X2_ripple N) (kl := []) ((fun _ z => absurd z List.not_mem_nil)) 40 ?_ ?_ <;> rfl)
  · exact (by refine GO.to (md_X2_ripple N) (kl := []) ((fun _ z => absurd z List.not_mem_nil)) 40 ?_ ?_ <;> rfl)
  · exact (by refine GO.to (md_X2_ripple N) (kl := []) ((fun _ z => absurd z List.not_mem_nil)) 40 ?_ ?_ <;> rfl)
set_option maxRecDepth 200000 in
theorem C_X2_ripple (N : Nat) : CTI 3 yX2_ripple cX2_ripple 7 (some .int) (a_X2_ripple N) := by
  refine CTI.of (own := RX2) (by decide) rfl (fun as σ r h => ?_)
  unfold a_X2_ripple at h
  rcases kSE_s h with ⟨r0, rfl, h0⟩ | hn
  ·
    obtain ⟨b1, r1, rfl, h1⟩ := kSI_s h0
    obtain ⟨b2, r2, rfl, h2⟩ := kSI_s h1
    obtain ⟨b3, r3, rfl, h3⟩ := kSI_s h2
    rcases kSE_s h3 with ⟨r4, rfl, h4⟩ | h3n
    ·
      obtain ⟨rfl, h9⟩ := kS0_s h4
      exact ⟨Nat.le_of_ble_eq_true rfl, by refine GO.to (md_X2_ripple N) (kl := [(6, fun vs st σ => kS0 st (kA 0 4 vs (kI 2 vs (fun x2 => kA 4 22 vs (kI 5 vs (fun x5 => kI 6 vs (fun x6 => f_X2_ripple_L6 N 22 12 (f_X2_ripple_J62 N 22 12) N x2 x5 x6 σ)))))))]) (List.forall_mem_cons.mpr ⟨fun vs st σ => go_kS0 (go_kA (fun h0 => go_kI (fun x2 h2 => go_kA (fun h4 => go_kI (fun x5 h5 => go_kI (fun x6 h6 => GO.pat [(0, .ref 4), (2, .int x2), (4, .ref 22), (5, .int x5), (6, .int x6)] ⟨h0, h2, h4, h5, h6, trivial⟩ (g_X2_ripple_L6 N 22 12 (Or.inl ⟨rfl, rfl⟩) (f_X2_ripple_J62 N 22 12) (g_X2_ripple_J62 N 22 12 (Or.inl ⟨rfl, rfl⟩)) N x2 x5 x6 σ))))))), (fun _ z => absurd z List.not_mem_nil)⟩) 40 ?_ ?_ <;> rfl⟩
    rcases kSE_s h3n with ⟨r4, rfl, h4⟩ | h3nn
    ·
      obtain ⟨rfl, h9⟩ := kS0_s h4
      exact ⟨Nat.le_of_ble_eq_true rfl, by refine GO.to (md_X2_ripple N) (kl := [(6, fun vs st σ => kS0 st (kA 0 4 vs (kI 2 vs (fun x2 => kA 4 28 vs (kI 5 vs (fun x5 => kI 6 vs (fun x6 => f_X2_ripple_L6 N 28 12 (f_X2_ripple_J62 N 28 12) N x2 x5 x6 σ)))))))]) (List.forall_mem_cons.mpr ⟨fun vs st σ => go_kS0 (go_kA (fun h0 => go_kI (fun x2 h2 => go_kA (fun h4 => go_kI (fun x5 h5 => go_kI (fun x6 h6 => GO.pat [(0, .ref 4), (2, .int x2), (4, .ref 28), (5, .int x5), (6, .int x6)] ⟨h0, h2, h4, h5, h6, trivial⟩ (g_X2_ripple_L6 N 28 12 (Or.inr (Or.inl ⟨rfl, rfl⟩)) (f_X2_ripple_J62 N 28 12) (g_X2_ripple_J62 N 28 12 (Or.inr (Or.inl ⟨rfl, rfl⟩))) N x2 x5 x6 σ))))))), (fun _ z => absurd z List.not_mem_nil)⟩) 40 ?_ ?_ <;> rfl⟩
    rcases kSE_s h3nn with ⟨r4, rfl, h4⟩ | h3nnn
    ·
      obtain ⟨rfl, h9⟩ := kS0_s h4
      exact ⟨Nat.le_of_ble_eq_true rfl, by refine GO.to (md_X2_ripple N) (kl := [(6, fun vs st σ => kS0 st (kA 0 4 vs (kI 2 vs (fun x2 => kA 4 29 vs (kI 5 vs (fun x5 => kI 6 vs (fun x6 => f_X2_ripple_L6 N 29 12 (f_X2_ripple_J62 N 29 12) N x2 x5 x6 σ)))))))]) (List.forall_mem_cons.mpr ⟨fun vs st σ => go_kS0 (go_kA (fun h0 => go_kI (fun x2 h2 => go_kA (fun h4 => go_kI (fun x5 h5 => go_kI (fun x6 h6 => GO.pat [(0, .ref 4), (2, .int x2), (4, .ref 29), (5, .int x5), (6, .int x6)] ⟨h0, h2, h4, h5, h6, trivial⟩ (g_X2_ripple_L6 N 29 12 (Or.inr (Or.inr ⟨rfl, rfl⟩)) (f_X2_ripple_J62 N 29 12) (g_X2_ripple_J62 N 29 12 (Or.inr (Or.inr ⟨rfl, rfl⟩))) N x2 x5 x6 σ))))))), (fun _ z => absurd z List.not_mem_nil)⟩) 40 ?_ ?_ <;> rfl⟩
    cases h3nnn
  cases hn
def T_X2_span : List (Nat × Ent) := [(0, .iload_n 1, 1, []), (1, .iload_n 2, 2, []), (2, .if_icmp .lt 23, 5, [25]), (5, .iload_n 3, 6, []), (6, .ifCond .eq 12, 9, [18]), (9, .aload_n 0, 10, []), (10, .getfield 40, 13, []), (13, .iload_n 1, 14, []), (14, .iaload, 15, []), (15, .goto 9, 18, [24]), (18, .aload_n 0, 19, []), (19, .getfield 37, 22, []), (22, .iload_n 1, 23, []), (23, .iaload, 24, []), (24, .ireturn, 25, []), (25, .iload_n 1, 26, []), (26, .iload_n 2, 27, []), (27, .iadd, 28, []), (28, .iconst 2, 29, []), (29, .idiv, 30, []), (30, .istore 4, 32, []), (32, .aload_n 0, 33, []), (33, .iload 4, 35, []), (35, .iconst 1, 36, []), (36, .iadd, 37, []), (37, .iload_n 2, 38, []), (38, .iconst 0, 39, []), (39, .invokestatic 116, 42, []), (42, .istore 5, 44, []), (44, .iload_n 3, 45, []), (45, .ifCond .ne 18, 48, [63]), (48, .aload_n 0, 49, []), (49, .iload 5, 51, []), (51, .aload_n 0, 52, []), (52, .iload_n 1, 53, []), (53, .iload 4, 55, []), (55, .iconst 0, 56, []), (56, .invokestatic 116, 59, []), (59, .invokevirtual 80, 62, []), (62, .ireturn, 63, []), (63, .aload_n 0, 64, []), (64, .aload_n 0, 65, []), (65, .iload 4, 67, []), (67, .iconst 1, 68, []), (68, .iadd, 69, []), (69, .iload_n 2, 70, []), (70, .iconst 1, 71, []), (71, .invokestatic 116, 74, []), (74, .aload_n 0, 75, []), (75, .iload 5, 77, []), (77, .aload_n 0, 78, []), (78, .iload_n 1, 79, []), (79, .iload 4, 81, []), (81, .iconst 1, 82, []), (82, .invokestatic 116, 85, []), (85, .invokevirtual 80, 88, []), (88, .invokevirtual 110, 91, []), (91, .ireturn, 92, [])]
set_option maxRecDepth 200000 in
theorem tc_X2_span : T_X2_span.all (chk cX2_span) = true := by decide +kernel
def f_X2_span (N : Nat) : Nat → Int32 → Int32 → Int32 → Wd → Option (Int32 × Wd)
  | 0, _, _, _, _ => none
  | d + 1, a1, a2, a3, σ => if a1 < a2 then (((f_X2_span N d) (((a1 + a2) / 2) + 1) a2 0 σ).bind fun p1 => if a3 = 0 then (((f_X2_span N d) a1 ((a1 + a2) / 2) 0 p1.2).bind fun p2 => (f_X2_and N p1.1 p2.1 p2.2).bind fun p3 => some (p3.1, p3.2)) else (((f_X2_span N d) (((a1 + a2) / 2) + 1) a2 1 p1.2).bind fun p4 => ((f_X2_span N d) a1 ((a1 + a2) / 2) 1 p4.2).bind fun p5 => (f_X2_and N p1.1 p5.1 p5.2).bind fun p6 => (f_X2_or N p4.1 p6.1 p6.2).bind fun p7 => some (p7.1, p7.2))) else (if a3 = 0 then ((xld σ 26 12 a1).bind fun v8 => some (v8, σ)) else ((xld σ 27 12 a1).bind fun v9 => some (v9, σ)))
def aR_X2_span (REC : Int32 → Int32 → Int32 → Wd → Option (Int32 × Wd)) : List Value → Wd → Option (Int32 × Wd) := fun as σ => kSE 4 as (fun r0 => kSI r0 (fun b1 r1 => kSI r1 (fun b2 r2 => kSI r2 (fun b3 r3 => kS0 r3 (REC b1 b2 b3 σ))))) (none)
def a_X2_span (N d : Nat) : List Value → Wd → Option (Int32 × Wd) := aR_X2_span (f_X2_span N d)
set_option maxRecDepth 200000 in
theorem k_X2_116 : calchk RX2 116 4 0 yX2_span cX2_span 6 (some .int) = true := by decide +kernel
def ct_X2_span (N : Nat) (REC : Int32 → Int32 → Int32 → Wd → Option (Int32 × Wd)) : List (Nat × Cal) := [(116, 4, 0, .inl (aR_X2_span REC)), (80, 3, 2, .inl (a_X2_and N)), (110, 3, 2, .inl (a_X2_or N))]
set_option maxRecDepth 200000 in
theorem md_X2_span (N : Nat) (REC : Int32 → Int32 → Int32 → Wd → Option (Int32 × Wd)) (lv0 : Nat) (hlv : 2 ≤ lv0) (hREC : CTI lv0 yX2_span cX2_span 6 (some .int) (aR_X2_span REC)) : MDOK T_X2_span ft_X2 lt_X2 (ct_X2_span N REC) cX2_span RX2 (lv0 + 1) := ⟨tc_X2_span, fc_X2, lc_X2, List.forall_mem_cons.mpr ⟨Or.inl ⟨yX2_span, cX2_span, 6, (some .int), lv0, k_X2_116, Nat.le_refl _, hREC⟩, List.forall_mem_cons.mpr ⟨Or.inl ⟨yX2_and, cX2_and, 3, (some .int), 2, k_X2_80, by omega, C_X2_and N⟩, List.forall_mem_cons.mpr ⟨Or.inl ⟨yX2_or, cX2_or, 3, (some .int), 2, k_X2_110, by omega, C_X2_or N⟩, (fun _ z => absurd z List.not_mem_nil)⟩⟩⟩⟩
set_option maxRecDepth 200000 in
theorem C_X2_span (N : Nat) : ∀ d : Nat, CTI (3 + d) yX2_span cX2_span 6 (some .int) (a_X2_span N d)
  | 0 => by
    refine CTI.of (own := RX2) (by decide) rfl (fun as σ r h => ?_)
    unfold a_X2_span aR_X2_span at h
    rcases kSE_s h with ⟨r0, rfl, h0⟩ | hn
    ·
      obtain ⟨b1, r1, rfl, h1⟩ := kSI_s h0
      obtain ⟨b2, r2, rfl, h2⟩ := kSI_s h1
      obtain ⟨b3, r3, rfl, h3⟩ := kSI_s h2
      obtain ⟨rfl, h9⟩ := kS0_s h3
      exact ⟨Nat.le_of_ble_eq_true rfl, GO.none⟩
    cases hn
  | d + 1 => by
    refine CTI.of (own := RX2) (by decide) rfl (fun as σ r h => ?_)
    unfold a_X2_span aR_X2_span at h
    rcases kSE_s h with ⟨r0, rfl, h0⟩ | hn
    ·
      obtain ⟨b1, r1, rfl, h1⟩ := kSI_s h0
      obtain ⟨b2, r2, rfl, h2⟩ := kSI_s h1
      obtain ⟨b3, r3, rfl, h3⟩ := kSI_s h2
      obtain ⟨rfl, h9⟩ := kS0_s h3
      exact ⟨Nat.le_of_ble_eq_true rfl, by refine GO.to (md_X2_span N (f_X2_span N d) (3 + d) (by omega) (C_X2_span N d)) (kl := []) ((fun _ z => absurd z List.not_mem_nil)) 63 ?_ ?_ <;> rfl⟩
    cases hn
def T_X2_laySkip : List (Nat × Ent) := [(0, .aload_n 0, 1, []), (1, .getfield 56, 4, []), (4, .istore_n 3, 5, []), (5, .aload_n 0, 6, []), (6, .iload_n 1, 7, []), (7, .iload_n 2, 8, []), (8, .iload_n 3, 9, []), (9, .aload_n 0, 10, []), (10, .getfield 25, 13, []), (13, .invokevirtual 92, 16, []), (16, .istore 4, 18, []), (18, .aload_n 0, 19, []), (19, .getfield 37, 22, []), (22, .iload_n 1, 23, []), (23, .iaload, 24, []), (24, .istore 5, 26, []), (26, .iload_n 1, 27, []), (27, .iconst 1, 28, []), (28, .iadd, 29, []), (29, .istore 6, 31, []), (31, .iload 6, 33, []), (33, .iload_n 2, 34, []), (34, .if_icmp .gt 24, 37, [58]), (37, .aload_n 0, 38, []), (38, .iload 5, 40, []), (40, .aload_n 0, 41, []), (41, .getfield 37, 44, []), (44, .iload 6, 46, []), (46, .iaload, 47, []), (47, .invokevirtual 80, 50, []), (50, .istore 5, 52, []), (52, .iinc 6 1, 55, []), (55, .goto (-24), 58, [31]), (58, .aload_n 0, 59, []), (59, .iload 4, 61, []), (61, .aload_n 0, 62, []), (62, .iload 5, 64, []), (64, .iload_n 3, 65, []), (65, .invokevirtual 80, 68, []), (68, .invokevirtual 110, 71, []), (71, .ireturn, 72, [])]
set_option maxRecDepth 200000 in
theorem tc_X2_laySkip : T_X2_laySkip.all (chk cX2_laySkip) = true := by decide +kernel
def f_X2_laySkip_L31 (N : Nat) (KO58 : Int32 → Int32 → Int32 → Wd → Option (Int32 × Wd)) : Nat → Int32 → Int32 → Int32 → Int32 → Int32 → Wd → Option (Int32 × Wd)
  | 0, _, _, _, _, _, _ => none
  | n + 1, x2, x3, x4, x5, x6, σ => if x2 < x6 then (KO58 x3 x4 x5 σ) else ((xld σ 26 12 x6).bind fun v3 => (f_X2_and N x5 v3 σ).bind fun p4 => f_X2_laySkip_L31 N KO58 n x2 x3 x4 p4.1 (x6 + 1) p4.2)
def f_X2_laySkip_J58 (N : Nat) (x3 : Int32) (x4 : Int32) (x5 : Int32) (σ : Wd) : Option (Int32 × Wd) :=
  (f_X2_and N x5 x3 σ).bind fun p5 => (f_X2_or N x4 p5.1 p5.2).bind fun p6 => some (p6.1, p6.2)
def f_X2_laySkip (N : Nat) (a1 : Int32) (a2 : Int32) (σ : Wd) : Option (Int32 × Wd) :=
  (f_X2_ripple N 22 12 a1 a2 (σ.1 4 7) σ).bind fun p1 => (xld p1.2 26 12 a1).bind fun v2 => f_X2_laySkip_L31 N (f_X2_laySkip_J58 N) N a2 (σ.1 4 7) p1.1 v2 (a1 + 1) p1.2
def a_X2_laySkip (N : Nat) : List Value → Wd → Option (Int32 × Wd) := fun as σ => kSE 4 as (fun r0 => kSI r0 (fun b1 r1 => kSI r1 (fun b2 r2 => kS0 r2 (f_X2_laySkip N b1 b2 σ)))) (none)
set_option maxRecDepth 200000 in
theorem k_X2_92 : calchk RX2 92 5 2 yX2_ripple cX2_ripple 7 (some .int) = true := by decide +kernel
def ct_X2_laySkip (N : Nat) : List (Nat × Cal) := [(92, 5, 2, .inl (a_X2_ripple N)), (80, 3, 2, .inl (a_X2_and N)), (110, 3, 2, .inl (a_X2_or N))]
set_option maxRecDepth 200000 in
theorem md_X2_laySkip (N : Nat) : MDOK T_X2_laySkip ft_X2 lt_X2 (ct_X2_laySkip N) cX2_laySkip RX2 4 := ⟨tc_X2_laySkip, fc_X2, lc_X2, List.forall_mem_cons.mpr ⟨Or.inl ⟨yX2_ripple, cX2_ripple, 7, (some .int), 3, k_X2_92, Nat.le_of_ble_eq_true rfl, C_X2_ripple N⟩, List.forall_mem_cons.mpr ⟨Or.inl ⟨yX2_and, cX2_and, 3, (some .int), 2, k_X2_80, Nat.le_of_ble_eq_true rfl, C_X2_and N⟩, List.forall_mem_cons.mpr ⟨Or.inl ⟨yX2_or, cX2_or, 3, (some .int), 2, k_X2_110, Nat.le_of_ble_eq_true rfl, C_X2_or N⟩, (fun _ z => absurd z List.not_mem_nil)⟩⟩⟩⟩
set_option maxRecDepth 200000 in
theorem g_X2_laySkip_L31 (N : Nat) (KO58 : Int32 → Int32 → Int32 → Wd → Option (Int32 × Wd)) (hKO58 : ∀ (x3 : Int32) (x4 : Int32) (x5 : Int32) (σ : Wd), GO cX2_laySkip RX2 7 4 sc0 rI nJ0 nV0 (KO58 x3 x4 x5 σ) 58 (mkp 0 7 [(0, .ref 4), (3, .int x3), (4, .int x4), (5, .int x5)]) [] σ) : ∀ (n : Nat), ∀ (x2 : Int32) (x3 : Int32) (x4 : Int32) (x5 : Int32) (x6 : Int32) (σ : Wd), GO cX2_laySkip RX2 7 4 sc0 rI nJ0 nV0 (f_X2_laySkip_L31 N KO58 n x2 x3 x4 x5 x6 σ) 31 (mkp 0 7 [(0, .ref 4), (2, .int x2), (3, .int x3), (4, .int x4), (5, .int x5), (6, .int x6)]) [] σ
  | 0, x2, x3, x4, x5, x6, σ => GO.none
  | n + 1, x2, x3, x4, x5, x6, σ => by
    exact (by refine GO.to (md_X2_laySkip N) (kl := [(58, fun vs st σ => kS0 st (kA 0 4 vs (kI 3 vs (fun x3 => kI 4 vs (fun x4 => kI 5 vs (fun x5 => KO58 x3 x4 x5 σ)))))), (31, fun vs st σ => kS0 st (kA 0 4 vs (kI 2 vs (fun x2 => kI 3 vs (fun x3 => kI 4 vs (fun x4 => kI 5 vs (fun x5 => kI 6 vs (fun x6 => f_X2_laySkip_L31 N KO58 n x2 x3 x4 x5 x6 σ))))))))]) (List.forall_mem_cons.mpr ⟨fun vs st σ => go_kS0 (go_kA (fun h0 => go_kI (fun x3 h3 => go_kI (fun x4 h4 => go_kI (fun x5 h5 => GO.pat [(0, .ref 4), (3, .int x3), (4, .int x4), (5, .int x5)] ⟨h0, h3, h4, h5, trivial⟩ (hKO58 x3 x4 x5 σ)))))), List.forall_mem_cons.mpr ⟨fun vs st σ => go_kS0 (go_kA (fun h0 => go_kI (fun x2 h2 => go_kI (fun x3 h3 => go_kI (fun x4 h4 => go_kI (fun x5 h5 => go_kI (fun x6 h6 => GO.pat [(0, .ref 4), (2, .int x2), (3, .int x3), (4, .int x4), (5, .int x5), (6, .int x6)] ⟨h0, h2, h3, h4, h5, h6, trivial⟩ (g_X2_laySkip_L31 N KO58 hKO58 n x2 x3 x4 x5 x6 σ)))))))), (fun _ z => absurd z List.not_mem_nil)⟩⟩) 46 ?_ ?_ <;> rfl)
set_option maxRecDepth 200000 in
theorem g_X2_laySkip_J58 (N : Nat) (x3 : Int32) (x4 : Int32) (x5 : Int32) (σ : Wd) : GO cX2_laySkip RX2 7 4 sc0 rI nJ0 nV0 (f_X2_laySkip_J58 N x3 x4 x5 σ) 58 (mkp 0 7 [(0, .ref 4), (3, .int x3), (4, .int x4), (5, .int x5)]) [] σ := by
  exact (by refine GO.to (md_X2_laySkip N) (kl := []) ((fun _ z => absurd z List.not_mem_nil)) 46 ?_ ?_ <;> rfl)
set_option maxRecDepth 200000 in
theorem C_X2_laySkip (N : Nat) : CTI 4 yX2_laySkip cX2_laySkip 7 (some .int) (a_X2_laySkip N) := by
  refine CTI.of (own := RX2) (by decide) rfl (fun as σ r h => ?_)
  unfold a_X2_laySkip at h
  rcases kSE_s h with ⟨r0, rfl, h0⟩ | hn
  ·
    obtain ⟨b1, r1, rfl, h1⟩ := kSI_s h0
    obtain ⟨b2, r2, rfl, h2⟩ := kSI_s h1
    obtain ⟨rfl, h9⟩ := kS0_s h2
    exact ⟨Nat.le_of_ble_eq_true rfl, by refine GO.to (md_X2_laySkip N) (kl := [(31, fun vs st σ => kS0 st (kA 0 4 vs (kI 2 vs (fun x2 => kI 3 vs (fun x3 => kI 4 vs (fun x4 => kI 5 vs (fun x5 => kI 6 vs (fun x6 => f_X2_laySkip_L31 N (f_X2_laySkip_J58 N) N x2 x3 x4 x5 x6 σ))))))))]) (List.forall_mem_cons.mpr ⟨fun vs st σ => go_kS0 (go_kA (fun h0 => go_kI (fun x2 h2 => go_kI (fun x3 h3 => go_kI (fun x4 h4 => go_kI (fun x5 h5 => go_kI (fun x6 h6 => GO.pat [(0, .ref 4), (2, .int x2), (3, .int x3), (4, .int x4), (5, .int x5), (6, .int x6)] ⟨h0, h2, h3, h4, h5, h6, trivial⟩ (g_X2_laySkip_L31 N (f_X2_laySkip_J58 N) (g_X2_laySkip_J58 N) N x2 x3 x4 x5 x6 σ)))))))), (fun _ z => absurd z List.not_mem_nil)⟩) 46 ?_ ?_ <;> rfl⟩
  cases hn
def T_X2_laySelect : List (Nat × Ent) := [(0, .aload_n 0, 1, []), (1, .getfield 56, 4, []), (4, .istore_n 3, 5, []), (5, .aload_n 0, 6, []), (6, .iload_n 1, 7, []), (7, .iload_n 2, 8, []), (8, .iconst 0, 9, []), (9, .aload_n 0, 10, []), (10, .getfield 43, 13, []), (13, .invokevirtual 92, 16, []), (16, .istore 4, 18, []), (18, .aload_n 0, 19, []), (19, .iload_n 1, 20, []), (20, .iload_n 2, 21, []), (21, .iconst 1, 22, []), (22, .aload_n 0, 23, []), (23, .getfield 46, 26, []), (26, .invokevirtual 92, 29, []), (29, .istore 5, 31, []), (31, .iload_n 1, 32, []), (32, .istore 6, 34, []), (34, .iload 6, 36, []), (36, .iload_n 2, 37, []), (37, .if_icmp .gt 48, 40, [85]), (40, .aload_n 0, 41, []), (41, .getfield 25, 44, []), (44, .iload 6, 46, []), (46, .aload_n 0, 47, []), (47, .aload_n 0, 48, []), (48, .aload_n 0, 49, []), (49, .getfield 46, 52, []), (52, .iload 6, 54, []), (54, .iaload, 55, []), (55, .iload_n 3, 56, []), (56, .invokevirtual 80, 59, []), (59, .aload_n 0, 60, []), (60, .aload_n 0, 61, []), (61, .getfield 43, 64, []), (64, .iload 6, 66, []), (66, .iaload, 67, []), (67, .aload_n 0, 68, []), (68, .iload_n 3, 69, []), (69, .invokevirtual 113, 72, []), (72, .invokevirtual 80, 75, []), (75, .invokevirtual 110, 78, []), (78, .iastore, 79, []), (79, .iinc 6 1, 82, []), (82, .goto (-48), 85, [34]), (85, .aload_n 0, 86, []), (86, .iload 4, 88, []), (88, .aload_n 0, 89, []), (89, .iload 5, 91, []), (91, .iload_n 3, 92, []), (92, .invokevirtual 80, 95, []), (95, .invokevirtual 110, 98, []), (98, .ireturn, 99, [])]
set_option maxRecDepth 200000 in
theorem tc_X2_laySelect : T_X2_laySelect.all (chk cX2_laySelect) = true := by decide +kernel
def f_X2_laySelect_L34 (N : Nat) (KO85 : Int32 → Int32 → Int32 → Wd → Option (Int32 × Wd)) : Nat → Int32 → Int32 → Int32 → Int32 → Int32 → Wd → Option (Int32 × Wd)
  | 0, _, _, _, _, _, _ => none
  | n + 1, x2, x3, x4, x5, x6, σ => if x2 < x6 then (KO85 x3 x4 x5 σ) else ((xld σ 29 12 x6).bind fun v3 => (f_X2_and N v3 x3 σ).bind fun p4 => (xld p4.2 28 12 x6).bind fun v5 => (f_X2_not N x3 p4.2).bind fun p6 => (f_X2_and N v5 p6.1 p6.2).bind fun p7 => (f_X2_or N p4.1 p7.1 p7.2).bind fun p8 => (xst p8.2 22 12 x6 p8.1).bind fun σ9 => f_X2_laySelect_L34 N KO85 n x2 x3 x4 x5 (x6 + 1) σ9)
def f_X2_laySelect_J85 (N : Nat) (x3 : Int32) (x4 : Int32) (x5 : Int32) (σ : Wd) : Option (Int32 × Wd) :=
  (f_X2_and N x5 x3 σ).bind fun p10 => (f_X2_or N x4 p10.1 p10.2).bind fun p11 => some (p11.1, p11.2)
def f_X2_laySelect (N : Nat) (a1 : Int32) (a2 : Int32) (σ : Wd) : Option (Int32 × Wd) :=
  (f_X2_ripple N 28 12 a1 a2 0 σ).bind fun p1 => (f_X2_ripple N 29 12 a1 a2 1 p1.2).bind fun p2 => f_X2_laySelect_L34 N (f_X2_laySelect_J85 N) N a2 (σ.1 4 7) p1.1 p2.1 a1 p2.2
def a_X2_laySelect (N : Nat) : List Value → Wd → Option (Int32 × Wd) := fun as σ => kSE 4 as (fun r0 => kSI r0 (fun b1 r1 => kSI r1 (fun b2 r2 => kS0 r2 (f_X2_laySelect N b1 b2 σ)))) (none)
set_option maxRecDepth 200000 in
theorem k_X2_113 : calchk RX2 113 2 2 yX2_not cX2_not 2 (some .int) = true := by decide +kernel
def ct_X2_laySelect (N : Nat) : List (Nat × Cal) := [(92, 5, 2, .inl (a_X2_ripple N)), (80, 3, 2, .inl (a_X2_and N)), (113, 2, 2, .inl (a_X2_not N)), (110, 3, 2, .inl (a_X2_or N))]
set_option maxRecDepth 200000 in
theorem md_X2_laySelect (N : Nat) : MDOK T_X2_laySelect ft_X2 lt_X2 (ct_X2_laySelect N) cX2_laySelect RX2 4 := ⟨tc_X2_laySelect, fc_X2, lc_X2, List.forall_mem_cons.mpr ⟨Or.inl ⟨yX2_ripple, cX2_ripple, 7, (some .int), 3, k_X2_92, Nat.le_of_ble_eq_true rfl, C_X2_ripple N⟩, List.forall_mem_cons.mpr ⟨Or.inl ⟨yX2_and, cX2_and, 3, (some .int), 2, k_X2_80, Nat.le_of_ble_eq_true rfl, C_X2_and N⟩, List.forall_mem_cons.mpr ⟨Or.inl ⟨yX2_not, cX2_not, 2, (some .int), 2, k_X2_113, Nat.le_of_ble_eq_true rfl, C_X2_not N⟩, List.forall_mem_cons.mpr ⟨Or.inl ⟨yX2_or, cX2_or, 3, (some .int), 2, k_X2_110, Nat.le_of_ble_eq_true rfl, C_X2_or N⟩, (fun _ z => absurd z List.not_mem_nil)⟩⟩⟩⟩⟩
set_option maxRecDepth 200000 in
theorem g_X2_laySelect_L34 (N : Nat) (KO85 : Int32 → Int32 → Int32 → Wd → Option (Int32 × Wd)) (hKO85 : ∀ (x3 : Int32) (x4 : Int32) (x5 : Int32) (σ : Wd), GO cX2_laySelect RX2 7 4 sc0 rI nJ0 nV0 (KO85 x3 x4 x5 σ) 85 (mkp 0 7 [(0, .ref 4), (3, .int x3), (4, .int x4), (5, .int x5)]) [] σ) : ∀ (n : Nat), ∀ (x2 : Int32) (x3 : Int32) (x4 : Int32) (x5 : Int32) (x6 : Int32) (σ : Wd), GO cX2_laySelect RX2 7 4 sc0 rI nJ0 nV0 (f_X2_laySelect_L34 N KO85 n x2 x3 x4 x5 x6 σ) 34 (mkp 0 7 [(0, .ref 4), (2, .int x2), (3, .int x3), (4, .int x4), (5, .int x5), (6, .int x6)]) [] σ
  | 0, x2, x3, x4, x5, x6, σ => GO.none
  | n + 1, x2, x3, x4, x5, x6, σ => by
    exact (by refine GO.to (md_X2_laySelect N) (kl := [(85, fun vs st σ => kS0 st (kA 0 4 vs (kI 3 vs (fun x3 => kI 4 vs (fun x4 => kI 5 vs (fun x5 => KO85 x3 x4 x5 σ)))))), (34, fun vs st σ => kS0 st (kA 0 4 vs (kI 2 vs (fun x2 => kI 3 vs (fun x3 => kI 4 vs (fun x4 => kI 5 vs (fun x5 => kI 6 vs (fun x6 => f_X2_laySelect_L34 N KO85 n x2 x3 x4 x5 x6 σ))))))))]) (List.forall_mem_cons.mpr ⟨fun vs st σ => go_kS0 (go_kA (fun h0 => go_kI (fun x3 h3 => go_kI (fun x4 h4 => go_kI (fun x5 h5 => GO.pat [(0, .ref 4), (3, .int x3), (4, .int x4), (5, .int x5)] ⟨h0, h3, h4, h5, trivial⟩ (hKO85 x3 x4 x5 σ)))))), List.forall_mem_cons.mpr ⟨fun vs st σ => go_kS0 (go_kA (fun h0 => go_kI (fun x2 h2 => go_kI (fun x3 h3 => go_kI (fun x4 h4 => go_kI (fun x5 h5 => go_kI (fun x6 h6 => GO.pat [(0, .ref 4), (2, .int x2), (3, .int x3), (4, .int x4), (5, .int x5), (6, .int x6)] ⟨h0, h2, h3, h4, h5, h6, trivial⟩ (g_X2_laySelect_L34 N KO85 hKO85 n x2 x3 x4 x5 x6 σ)))))))), (fun _ z => absurd z List.not_mem_nil)⟩⟩) 61 ?_ ?_ <;> rfl)
set_option maxRecDepth 200000 in
theorem g_X2_laySelect_J85 (N : Nat) (x3 : Int32) (x4 : Int32) (x5 : Int32) (σ : Wd) : GO cX2_laySelect RX2 7 4 sc0 rI nJ0 nV0 (f_X2_laySelect_J85 N x3 x4 x5 σ) 85 (mkp 0 7 [(0, .ref 4), (3, .int x3), (4, .int x4), (5, .int x5)]) [] σ := by
  exact (by refine GO.to (md_X2_laySelect N) (kl := []) ((fun _ z => absurd z List.not_mem_nil)) 61 ?_ ?_ <;> rfl)
set_option maxRecDepth 200000 in
theorem C_X2_laySelect (N : Nat) : CTI 4 yX2_laySelect cX2_laySelect 7 (some .int) (a_X2_laySelect N) := by
  refine CTI.of (own := RX2) (by decide) rfl (fun as σ r h => ?_)
  unfold a_X2_laySelect at h
  rcases kSE_s h with ⟨r0, rfl, h0⟩ | hn
  ·
    obtain ⟨b1, r1, rfl, h1⟩ := kSI_s h0
    obtain ⟨b2, r2, rfl, h2⟩ := kSI_s h1
    obtain ⟨rfl, h9⟩ := kS0_s h2
    exact ⟨Nat.le_of_ble_eq_true rfl, by refine GO.to (md_X2_laySelect N) (kl := [(34, fun vs st σ => kS0 st (kA 0 4 vs (kI 2 vs (fun x2 => kI 3 vs (fun x3 => kI 4 vs (fun x4 => kI 5 vs (fun x5 => kI 6 vs (fun x6 => f_X2_laySelect_L34 N (f_X2_laySelect_J85 N) N x2 x3 x4 x5 x6 σ))))))))]) (List.forall_mem_cons.mpr ⟨fun vs st σ => go_kS0 (go_kA (fun h0 => go_kI (fun x2 h2 => go_kI (fun x3 h3 => go_kI (fun x4 h4 => go_kI (fun x5 h5 => go_kI (fun x6 h6 => GO.pat [(0, .ref 4), (2, .int x2), (3, .int x3), (4, .int x4), (5, .int x5), (6, .int x6)] ⟨h0, h2, h3, h4, h5, h6, trivial⟩ (g_X2_laySelect_L34 N (f_X2_laySelect_J85 N) (g_X2_laySelect_J85 N) N x2 x3 x4 x5 x6 σ)))))))), (fun _ z => absurd z List.not_mem_nil)⟩) 61 ?_ ?_ <;> rfl⟩
  cases hn
def T_X2_layAhead : List (Nat × Ent) := [(0, .aload_n 0, 1, []), (1, .getfield 56, 4, []), (4, .istore_n 3, 5, []), (5, .iload_n 3, 6, []), (6, .istore 4, 8, []), (8, .iload_n 1, 9, []), (9, .istore 5, 11, []), (11, .iload 5, 13, []), (13, .iload_n 2, 14, []), (14, .if_icmp .gt 56, 17, [70]), (17, .aload_n 0, 18, []), (18, .getfield 25, 21, []), (21, .iload 5, 23, []), (23, .aload_n 0, 24, []), (24, .aload_n 0, 25, []), (25, .getfield 37, 28, []), (28, .iload 5, 30, []), (30, .iaload, 31, []), (31, .iload 4, 33, []), (33, .invokevirtual 76, 36, []), (36, .iastore, 37, []), (37, .aload_n 0, 38, []), (38, .aload_n 0, 39, []), (39, .iload_n 1, 40, []), (40, .iload 5, 42, []), (42, .iconst 1, 43, []), (43, .invokestatic 116, 46, []), (46, .aload_n 0, 47, []), (47, .aload_n 0, 48, []), (48, .iload_n 1, 49, []), (49, .iload 5, 51, []), (51, .iconst 0, 52, []), (52, .invokestatic 116, 55, []), (55, .iload_n 3, 56, []), (56, .invokevirtual 80, 59, []), (59, .invokevirtual 110, 62, []), (62, .istore 4, 64, []), (64, .iinc 5 1, 67, []), (67, .goto (-56), 70, [11]), (70, .iload 4, 72, []), (72, .ireturn, 73, [])]
set_option maxRecDepth 200000 in
theorem tc_X2_layAhead : T_X2_layAhead.all (chk cX2_layAhead) = true := by decide +kernel
def f_X2_layAhead_L11 (N : Nat) (KO70 : Int32 → Wd → Option (Int32 × Wd)) : Nat → Int32 → Int32 → Int32 → Int32 → Int32 → Wd → Option (Int32 × Wd)
  | 0, _, _, _, _, _, _ => none
  | n + 1, x1, x2, x3, x4, x5, σ => if x2 < x5 then (KO70 x4 σ) else ((xld σ 26 12 x5).bind fun v1 => (f_X2_xor N v1 x4 σ).bind fun p2 => (xst p2.2 22 12 x5 p2.1).bind fun σ3 => (f_X2_span N 9 x1 x5 1 σ3).bind fun p4 => (f_X2_span N 9 x1 x5 0 p4.2).bind fun p5 => (f_X2_and N p5.1 x3 p5.2).bind fun p6 => (f_X2_or N p4.1 p6.1 p6.2).bind fun p7 => f_X2_layAhead_L11 N KO70 n x1 x2 x3 p7.1 (x5 + 1) p7.2)
def f_X2_layAhead_J70 (N : Nat) (x4 : Int32) (σ : Wd) : Option (Int32 × Wd) :=
  some (x4, σ)
def f_X2_layAhead (N : Nat) (a1 : Int32) (a2 : Int32) (σ : Wd) : Option (Int32 × Wd) :=
  f_X2_layAhead_L11 N (f_X2_layAhead_J70 N) N a1 a2 (σ.1 4 7) (σ.1 4 7) a1 σ
def a_X2_layAhead (N : Nat) : List Value → Wd → Option (Int32 × Wd) := fun as σ => kSE 4 as (fun r0 => kSI r0 (fun b1 r1 => kSI r1 (fun b2 r2 => kS0 r2 (f_X2_layAhead N b1 b2 σ)))) (none)
def ct_X2_layAhead (N : Nat) : List (Nat × Cal) := [(76, 3, 2, .inl (a_X2_xor N)), (116, 4, 0, .inl (a_X2_span N 9)), (80, 3, 2, .inl (a_X2_and N)), (110, 3, 2, .inl (a_X2_or N))]
set_option maxRecDepth 200000 in
theorem md_X2_layAhead (N : Nat) : MDOK T_X2_layAhead ft_X2 lt_X2 (ct_X2_layAhead N) cX2_layAhead RX2 13 := ⟨tc_X2_layAhead, fc_X2, lc_X2, List.forall_mem_cons.mpr ⟨Or.inl ⟨yX2_xor, cX2_xor, 3, (some .int), 2, k_X2_76, Nat.le_of_ble_eq_true rfl, C_X2_xor N⟩, List.forall_mem_cons.mpr ⟨Or.inl ⟨yX2_span, cX2_span, 6, (some .int), 12, k_X2_116, Nat.le_of_ble_eq_true rfl, C_X2_span N 9⟩, List.forall_mem_cons.mpr ⟨Or.inl ⟨yX2_and, cX2_and, 3, (some .int), 2, k_X2_80, Nat.le_of_ble_eq_true rfl, C_X2_and N⟩, List.forall_mem_cons.mpr ⟨Or.inl ⟨yX2_or, cX2_or, 3, (some .int), 2, k_X2_110, Nat.le_of_ble_eq_true rfl, C_X2_or N⟩, (fun _ z => absurd z List.not_mem_nil)⟩⟩⟩⟩⟩
set_option maxRecDepth 200000 in
theorem g_X2_layAhead_L11 (N : Nat) (KO70 : Int32 → Wd → Option (Int32 × Wd)) (hKO70 : ∀ (x4 : Int32) (σ : Wd), GO cX2_layAhead RX2 6 13 sc0 rI nJ0 nV0 (KO70 x4 σ) 70 (mkp 0 6 [(4, .int x4)]) [] σ) : ∀ (n : Nat), ∀ (x1 : Int32) (x2 : Int32) (x3 : Int32) (x4 : Int32) (x5 : Int32) (σ : Wd), GO cX2_layAhead RX2 6 13 sc0 rI nJ0 nV0 (f_X2_layAhead_L11 N KO70 n x1 x2 x3 x4 x5 σ) 11 (mkp 0 6 [(0, .ref 4), (1, .int x1), (2, .int x2), (3, .int x3), (4, .int x4), (5, .int x5)]) [] σ
  | 0, x1, x2, x3, x4, x5, σ => GO.none
  | n + 1, x1, x2, x3, x4, x5, σ => by
    exact (by refine GO.to (md_X2_layAhead N) (kl := [(70, fun vs st σ => kS0 st (kI 4 vs (fun x4 => KO70 x4 σ))), (11, fun vs st σ => kS0 st (kA 0 4 vs (kI 1 vs (fun x1 => kI 2 vs (fun x2 => kI 3 vs (fun x3 => kI 4 vs (fun x4 => kI 5 vs (fun x5 => f_X2_layAhead_L11 N KO70 n x1 x2 x3 x4 x5 σ))))))))]) (List.forall_mem_cons.mpr ⟨fun vs st σ => go_kS0 (go_kI (fun x4 h4 => GO.pat [(4, .int x4)] ⟨h4, trivial⟩ (hKO70 x4 σ))), List.forall_mem_cons.mpr ⟨fun vs st σ => go_kS0 (go_kA (fun h0 => go_kI (fun x1 h1 => go_kI (fun x2 h2 => go_kI (fun x3 h3 => go_kI (fun x4 h4 => go_kI (fun x5 h5 => GO.pat [(0, .ref 4), (1, .int x1), (2, .int x2), (3, .int x3), (4, .int x4), (5, .int x5)] ⟨h0, h1, h2, h3, h4, h5, trivial⟩ (g_X2_layAhead_L11 N KO70 hKO70 n x1 x2 x3 x4 x5 σ)))))))), (fun _ z => absurd z List.not_mem_nil)⟩⟩) 46 ?_ ?_ <;> rfl)
set_option maxRecDepth 200000 in
theorem g_X2_layAhead_J70 (N : Nat) (x4 : Int32) (σ : Wd) : GO cX2_layAhead RX2 6 13 sc0 rI nJ0 nV0 (f_X2_layAhead_J70 N x4 σ) 70 (mkp 0 6 [(4, .int x4)]) [] σ := by
  exact (by refine GO.to (md_X2_layAhead N) (kl := []) ((fun _ z => absurd z List.not_mem_nil)) 46 ?_ ?_ <;> rfl)
set_option maxRecDepth 200000 in
theorem C_X2_layAhead (N : Nat) : CTI 13 yX2_layAhead cX2_layAhead 6 (some .int) (a_X2_layAhead N) := by
  refine CTI.of (own := RX2) (by decide) rfl (fun as σ r h => ?_)
  unfold a_X2_layAhead at h
  rcases kSE_s h with ⟨r0, rfl, h0⟩ | hn
  ·
    obtain ⟨b1, r1, rfl, h1⟩ := kSI_s h0
    obtain ⟨b2, r2, rfl, h2⟩ := kSI_s h1
    obtain ⟨rfl, h9⟩ := kS0_s h2
    exact ⟨Nat.le_of_ble_eq_true rfl, by refine GO.to (md_X2_layAhead N) (kl := [(11, fun vs st σ => kS0 st (kA 0 4 vs (kI 1 vs (fun x1 => kI 2 vs (fun x2 => kI 3 vs (fun x3 => kI 4 vs (fun x4 => kI 5 vs (fun x5 => f_X2_layAhead_L11 N (f_X2_layAhead_J70 N) N x1 x2 x3 x4 x5 σ))))))))]) (List.forall_mem_cons.mpr ⟨fun vs st σ => go_kS0 (go_kA (fun h0 => go_kI (fun x1 h1 => go_kI (fun x2 h2 => go_kI (fun x3 h3 => go_kI (fun x4 h4 => go_kI (fun x5 h5 => GO.pat [(0, .ref 4), (1, .int x1), (2, .int x2), (3, .int x3), (4, .int x4), (5, .int x5)] ⟨h0, h1, h2, h3, h4, h5, trivial⟩ (g_X2_layAhead_L11 N (f_X2_layAhead_J70 N) (g_X2_layAhead_J70 N) N x1 x2 x3 x4 x5 σ)))))))), (fun _ z => absurd z List.not_mem_nil)⟩) 46 ?_ ?_ <;> rfl⟩
  cases hn
def T_X2_lay : List (Nat × Ent) := [(0, .aload_n 0, 1, []), (1, .getfield 53, 4, []), (4, .istore_n 3, 5, []), (5, .aload_n 0, 6, []), (6, .getfield 53, 9, []), (9, .iload_n 2, 10, []), (10, .iadd, 11, []), (11, .iconst 1, 12, []), (12, .isub, 13, []), (13, .istore 4, 15, []), (15, .iload_n 2, 16, []), (16, .iconst 1, 17, []), (17, .if_icmp .lt 16, 20, [33]), (20, .iload_n 2, 21, []), (21, .bipush 6, 23, []), (23, .if_icmp .gt 10, 26, [33]), (26, .iload 4, 28, []), (28, .bipush 12, 30, []), (30, .if_icmp .lt 4, 33, [34]), (33, .return_, 34, []), (34, .iload_n 3, 35, []), (35, .istore 5, 37, []), (37, .iload 5, 39, []), (39, .iload 4, 41, []), (41, .if_icmp .gt 49, 44, [90]), (44, .aload_n 0, 45, []), (45, .getfield 37, 48, []), (48, .iload 5, 50, []), (50, .aload_n 0, 51, []), (51, .iconst 2, 52, []), (52, .iload 5, 54, []), (54, .iadd, 55, []), (55, .bipush 14, 57, []), (57, .iload 5, 59, []), (59, .iadd, 60, []), (60, .invokevirtual 76, 63, []), (63, .iastore, 64, []), (64, .aload_n 0, 65, []), (65, .getfield 40, 68, []), (68, .iload 5, 70, []), (70, .aload_n 0, 71, []), (71, .iconst 2, 72, []), (72, .iload 5, 74, []), (74, .iadd, 75, []), (75, .bipush 14, 77, []), (77, .iload 5, 79, []), (79, .iadd, 80, []), (80, .invokevirtual 80, 83, []), (83, .iastore, 84, []), (84, .iinc 5 1, 87, []), (87, .goto (-50), 90, [37]), (90, .iload_n 1, 91, []), (91, .tableswitch 67 1 3 #[25, 39, 53], 116, [158, 116, 130, 144]), (116, .aload_n 0, 117, []), (117, .aload_n 0, 118, []), (118, .iload_n 3, 119, []), (119, .iload 4, 121, []), (121, .invokevirtual 83, 124, []), (124, .putfield 56, 127, []), (127, .goto 50, 130, [177]), (130, .aload_n 0, 131, []), (131, .aload_n 0, 132, []), (132, .iload_n 3, 133, []), (133, .iload 4, 135, []), (135, .invokevirtual 86, 138, []), (138, .putfield 56, 141, []), (141, .goto 36, 144, [177]), (144, .aload_n 0, 145, []), (145, .aload_n 0, 146, []), (146, .iload_n 3, 147, []), (147, .iload 4, 149, []), (149, .invokevirtual 89, 152, []), (152, .putfield 56, 155, []), (155, .goto 22, 158, [177]), (158, .aload_n 0, 159, []), (159, .aload_n 0, 160, []), (160, .iload_n 3, 161, []), (161, .iload 4, 163, []), (163, .aload_n 0, 164, []), (164, .getfield 56, 167, []), (167, .aload_n 0, 168, []), (168, .getfield 25, 171, []), (171, .invokevirtual 92, 174, []), (174, .putfield 56, 177, []), (177, .aload_n 0, 178, []), (178, .iload 4, 180, []), (180, .iconst 1, 181, []), (181, .iadd, 182, []), (182, .putfield 53, 185, []), (185, .return_, 186, [])]
set_option maxRecDepth 200000 in
theorem tc_X2_lay : T_X2_lay.all (chk cX2_lay) = true := by decide +kernel
def f_X2_lay_L37 (N : Nat) (KO90 : Int32 → Int32 → Int32 → Wd → Option Wd) : Nat → Int32 → Int32 → Int32 → Int32 → Wd → Option Wd
  | 0, _, _, _, _, _ => none
  | n + 1, x1, x3, x4, x5, σ => if x4 < x5 then (KO90 x1 x3 x4 σ) else ((f_X2_xor N (2 + x5) (14 + x5) σ).bind fun p1 => (xst p1.2 26 12 x5 p1.1).bind fun σ2 => (f_X2_and N (2 + x5) (14 + x5) σ2).bind fun p3 => (xst p3.2 27 12 x5 p3.1).bind fun σ4 => f_X2_lay_L37 N KO90 n x1 x3 x4 (x5 + 1) σ4)
def f_X2_lay_J90 (N : Nat) (x1 : Int32) (x3 : Int32) (x4 : Int32) (σ : Wd) : Option Wd :=
  if x1 = 1 then ((f_X2_laySkip N x3 x4 σ).bind fun p5 => let σ6 : Wd := sF p5.2 4 7 p5.1
  let σ7 : Wd := sF σ6 4 6 (x4 + 1)
  some σ7) else if x1 = 2 then ((f_X2_laySelect N x3 x4 σ).bind fun p8 => let σ9 : Wd := sF p8.2 4 7 p8.1
  let σ10 : Wd := sF σ9 4 6 (x4 + 1)
  some σ10) else if x1 = 3 then ((f_X2_layAhead N x3 x4 σ).bind fun p11 => let σ12 : Wd := sF p11.2 4 7 p11.1
  let σ13 : Wd := sF σ12 4 6 (x4 + 1)
  some σ13) else ((f_X2_ripple N 22 12 x3 x4 (σ.1 4 7) σ).bind fun p14 => let σ15 : Wd := sF p14.2 4 7 p14.1
  let σ16 : Wd := sF σ15 4 6 (x4 + 1)
  some σ16)
def f_X2_lay (N : Nat) (a1 : Int32) (a2 : Int32) (σ : Wd) : Option Wd :=
  if a2 < 1 then (some σ) else (if 6 < a2 then (some σ) else (if (((σ.1 4 6) + a2) - 1) < 12 then (f_X2_lay_L37 N (f_X2_lay_J90 N) N a1 (σ.1 4 6) (((σ.1 4 6) + a2) - 1) (σ.1 4 6) σ) else (some σ)))
def a_X2_lay (N : Nat) : List Value → Wd → Option Wd := fun as σ => kSE 4 as (fun r0 => kSI r0 (fun b1 r1 => kSI r1 (fun b2 r2 => kS0 r2 (f_X2_lay N b1 b2 σ)))) (none)
set_option maxRecDepth 200000 in
theorem k_X2_83 : calchk RX2 83 3 2 yX2_laySkip cX2_laySkip 7 (some .int) = true := by decide +kernel
set_option maxRecDepth 200000 in
theorem k_X2_86 : calchk RX2 86 3 2 yX2_laySelect cX2_laySelect 7 (some .int) = true := by decide +kernel
set_option maxRecDepth 200000 in
theorem k_X2_89 : calchk RX2 89 3 2 yX2_layAhead cX2_layAhead 6 (some .int) = true := by decide +kernel
def ct_X2_lay (N : Nat) : List (Nat × Cal) := [(76, 3, 2, .inl (a_X2_xor N)), (80, 3, 2, .inl (a_X2_and N)), (83, 3, 2, .inl (a_X2_laySkip N)), (86, 3, 2, .inl (a_X2_laySelect N)), (89, 3, 2, .inl (a_X2_layAhead N)), (92, 5, 2, .inl (a_X2_ripple N))]
set_option maxRecDepth 200000 in
theorem md_X2_lay (N : Nat) : MDOK T_X2_lay ft_X2 lt_X2 (ct_X2_lay N) cX2_lay RX2 14 := ⟨tc_X2_lay, fc_X2, lc_X2, List.forall_mem_cons.mpr ⟨Or.inl ⟨yX2_xor, cX2_xor, 3, (some .int), 2, k_X2_76, Nat.le_of_ble_eq_true rfl, C_X2_xor N⟩, List.forall_mem_cons.mpr ⟨Or.inl ⟨yX2_and, cX2_and, 3, (some .int), 2, k_X2_80, Nat.le_of_ble_eq_true rfl, C_X2_and N⟩, List.forall_mem_cons.mpr ⟨Or.inl ⟨yX2_laySkip, cX2_laySkip, 7, (some .int), 4, k_X2_83, Nat.le_of_ble_eq_true rfl, C_X2_laySkip N⟩, List.forall_mem_cons.mpr ⟨Or.inl ⟨yX2_laySelect, cX2_laySelect, 7, (some .int), 4, k_X2_86, Nat.le_of_ble_eq_true rfl, C_X2_laySelect N⟩, List.forall_mem_cons.mpr ⟨Or.inl ⟨yX2_layAhead, cX2_layAhead, 6, (some .int), 13, k_X2_89, Nat.le_of_ble_eq_true rfl, C_X2_layAhead N⟩, List.forall_mem_cons.mpr ⟨Or.inl ⟨yX2_ripple, cX2_ripple, 7, (some .int), 3, k_X2_92, Nat.le_of_ble_eq_true rfl, C_X2_ripple N⟩, (fun _ z => absurd z List.not_mem_nil)⟩⟩⟩⟩⟩⟩⟩
set_option maxRecDepth 200000 in
theorem g_X2_lay_L37 (N : Nat) (KO90 : Int32 → Int32 → Int32 → Wd → Option Wd) (hKO90 : ∀ (x1 : Int32) (x3 : Int32) (x4 : Int32) (σ : Wd), GO cX2_lay RX2 6 14 sc0 nI0 nJ0 some (KO90 x1 x3 x4 σ) 90 (mkp 0 6 [(0, .ref 4), (1, .int x1), (3, .int x3), (4, .int x4)]) [] σ) : ∀ (n : Nat), ∀ (x1 : Int32) (x3 : Int32) (x4 : Int32) (x5 : Int32) (σ : Wd), GO cX2_lay RX2 6 14 sc0 nI0 nJ0 some (f_X2_lay_L37 N KO90 n x1 x3 x4 x5 σ) 37 (mkp 0 6 [(0, .ref 4), (1, .int x1), (3, .int x3), (4, .int x4), (5, .int x5)]) [] σ
  | 0, x1, x3, x4, x5, σ => GO.none
  | n + 1, x1, x3, x4, x5, σ => by
    exact (by refine GO.to (md_X2_lay N) (kl := [(90, fun vs st σ => kS0 st (kA 0 4 vs (kI 1 vs (fun x1 => kI 3 vs (fun x3 => kI 4 vs (fun x4 => KO90 x1 x3 x4 σ)))))), (37, fun vs st σ => kS0 st (kA 0 4 vs (kI 1 vs (fun x1 => kI 3 vs (fun x3 => kI 4 vs (fun x4 => kI 5 vs (fun x5 => f_X2_lay_L37 N KO90 n x1 x3 x4 x5 σ)))))))]) (List.forall_mem_cons.mpr ⟨fun vs st σ => go_kS0 (go_kA (fun h0 => go_kI (fun x1 h1 => go_kI (fun x3 h3 => go_kI (fun x4 h4 => GO.pat [(0, .ref 4), (1, .int x1), (3, .int x3), (4, .int x4)] ⟨h0, h1, h3, h4, trivial⟩ (hKO90 x1 x3 x4 σ)))))), List.forall_mem_cons.mpr ⟨fun vs st σ => go_kS0 (go_kA (fun h0 => go_kI (fun x1 h1 => go_kI (fun x3 h3 => go_kI (fun x4 h4 => go_kI (fun x5 h5 => GO.pat [(0, .ref 4), (1, .int x1), (3, .int x3), (4, .int x4), (5, .int x5)] ⟨h0, h1, h3, h4, h5, trivial⟩ (g_X2_lay_L37 N KO90 hKO90 n x1 x3 x4 x5 σ))))))), (fun _ z => absurd z List.not_mem_nil)⟩⟩) 95 ?_ ?_ <;> rfl)
set_option maxRecDepth 200000 in
theorem g_X2_lay_J90 (N : Nat) (x1 : Int32) (x3 : Int32) (x4 : Int32) (σ : Wd) : GO cX2_lay RX2 6 14 sc0 nI0 nJ0 some (f_X2_lay_J90 N x1 x3 x4 σ) 90 (mkp 0 6 [(0, .ref 4), (1, .int x1), (3, .int x3), (4, .int x4)]) [] σ := by
  exact (by refine GO.to (md_X2_lay N) (kl := []) ((fun _ z => absurd z List.not_mem_nil)) 95 ?_ ?_ <;> rfl)
set_option maxRecDepth 200000 in
theorem C_X2_lay (N : Nat) : CTV 14 yX2_lay cX2_lay 6 none (a_X2_lay N) := by
  refine CTV.of (own := RX2) (by decide) rfl (fun as σ r h => ?_)
  unfold a_X2_lay at h
  rcases kSE_s h with ⟨r0, rfl, h0⟩ | hn
  ·
    obtain ⟨b1, r1, rfl, h1⟩ := kSI_s h0
    obtain ⟨b2, r2, rfl, h2⟩ := kSI_s h1
    obtain ⟨rfl, h9⟩ := kS0_s h2
    exact ⟨Nat.le_of_ble_eq_true rfl, by refine GO.to (md_X2_lay N) (kl := [(37, fun vs st σ => kS0 st (kA 0 4 vs (kI 1 vs (fun x1 => kI 3 vs (fun x3 => kI 4 vs (fun x4 => kI 5 vs (fun x5 => f_X2_lay_L37 N (f_X2_lay_J90 N) N x1 x3 x4 x5 σ)))))))]) (List.forall_mem_cons.mpr ⟨fun vs st σ => go_kS0 (go_kA (fun h0 => go_kI (fun x1 h1 => go_kI (fun x3 h3 => go_kI (fun x4 h4 => go_kI (fun x5 h5 => GO.pat [(0, .ref 4), (1, .int x1), (3, .int x3), (4, .int x4), (5, .int x5)] ⟨h0, h1, h3, h4, h5, trivial⟩ (g_X2_lay_L37 N (f_X2_lay_J90 N) (g_X2_lay_J90 N) N x1 x3 x4 x5 σ))))))), (fun _ z => absurd z List.not_mem_nil)⟩) 95 ?_ ?_ <;> rfl⟩
  cases hn
def T_X2_build : List (Nat × Ent) := [(0, .aload_n 0, 1, []), (1, .iconst 0, 2, []), (2, .putfield 53, 5, []), (5, .aload_n 0, 6, []), (6, .bipush 26, 8, []), (8, .putfield 56, 11, []), (11, .lload_n 1, 12, []), (12, .invokestatic 59, 15, []), (15, .istore_n 3, 16, []), (16, .iconst 0, 17, []), (17, .istore 4, 19, []), (19, .iload 4, 21, []), (21, .iload_n 3, 22, []), (22, .if_icmp .ge 25, 25, [47]), (25, .aload_n 0, 26, []), (26, .lload_n 1, 27, []), (27, .iload 4, 29, []), (29, .invokestatic 65, 32, []), (32, .lload_n 1, 33, []), (33, .iload 4, 35, []), (35, .invokestatic 69, 38, []), (38, .invokevirtual 72, 41, []), (41, .iinc 4 1, 44, []), (44, .goto (-25), 47, [19]), (47, .return_, 48, [])]
set_option maxRecDepth 200000 in
theorem tc_X2_build : T_X2_build.all (chk cX2_build) = true := by decide +kernel
def f_X2_build_L19 (N : Nat) (KO47 : Wd → Option Wd) : Nat → Int64 → Int32 → Int32 → Wd → Option Wd
  | 0, _, _, _, _ => none
  | n + 1, x1, x3, x4, σ => if x3 ≤ x4 then (KO47 σ) else ((f_X0_kindAt N x1 x4 σ).bind fun p4 => (f_X0_widthAt N x1 x4 p4.2).bind fun p5 => (f_X2_lay N p4.1 p5.1 p5.2).bind fun σ6 => f_X2_build_L19 N KO47 n x1 x3 (x4 + 1) σ6)
def f_X2_build_J47 (N : Nat) (σ : Wd) : Option Wd :=
  some σ
def f_X2_build (N : Nat) (a1 : Int64) (σ : Wd) : Option Wd :=
  let σ1 : Wd := sF σ 4 6 0
  let σ2 : Wd := sF σ1 4 7 26
  (f_X0_amount N a1 σ2).bind fun p3 => f_X2_build_L19 N (f_X2_build_J47 N) N a1 p3.1 0 p3.2
def a_X2_build (N : Nat) : List Value → Wd → Option Wd := fun as σ => kSE 4 as (fun r0 => kSJ r0 (fun b1 r1 => kS0 r1 (f_X2_build N b1 σ))) (none)
set_option maxRecDepth 200000 in
theorem k_X2_59 : calchk RX2 59 1 0 yX0_amount cX0_amount 3 (some .int) = true := by decide +kernel
set_option maxRecDepth 200000 in
theorem k_X2_65 : calchk RX2 65 2 0 yX0_kindAt cX0_kindAt 3 (some .int) = true := by decide +kernel
set_option maxRecDepth 200000 in
theorem k_X2_69 : calchk RX2 69 2 0 yX0_widthAt cX0_widthAt 3 (some .int) = true := by decide +kernel
set_option maxRecDepth 200000 in
theorem k_X2_72 : calchk RX2 72 3 2 yX2_lay cX2_lay 6 none = true := by decide +kernel
def ct_X2_build (N : Nat) : List (Nat × Cal) := [(59, 1, 0, .inl (a_X0_amount N)), (65, 2, 0, .inl (a_X0_kindAt N)), (69, 2, 0, .inl (a_X0_widthAt N)), (72, 3, 2, .inr (.inr (a_X2_lay N)))]
set_option maxRecDepth 200000 in
theorem md_X2_build (N : Nat) : MDOK T_X2_build ft_X2 lt_X2 (ct_X2_build N) cX2_build RX2 15 := ⟨tc_X2_build, fc_X2, lc_X2, List.forall_mem_cons.mpr ⟨Or.inl ⟨yX0_amount, cX0_amount, 3, (some .int), 2, k_X2_59, Nat.le_of_ble_eq_true rfl, C_X0_amount N⟩, List.forall_mem_cons.mpr ⟨Or.inl ⟨yX0_kindAt, cX0_kindAt, 3, (some .int), 2, k_X2_65, Nat.le_of_ble_eq_true rfl, C_X0_kindAt N⟩, List.forall_mem_cons.mpr ⟨Or.inl ⟨yX0_widthAt, cX0_widthAt, 3, (some .int), 2, k_X2_69, Nat.le_of_ble_eq_true rfl, C_X0_widthAt N⟩, List.forall_mem_cons.mpr ⟨Or.inl ⟨yX2_lay, cX2_lay, 6, none, 14, k_X2_72, Nat.le_of_ble_eq_true rfl, C_X2_lay N⟩, (fun _ z => absurd z List.not_mem_nil)⟩⟩⟩⟩⟩
set_option maxRecDepth 200000 in
theorem g_X2_build_L19 (N : Nat) (KO47 : Wd → Option Wd) (hKO47 : ∀ (σ : Wd), GO cX2_build RX2 5 15 sc0 nI0 nJ0 some (KO47 σ) 47 (mkp 0 5 []) [] σ) : ∀ (n : Nat), ∀ (x1 : Int64) (x3 : Int32) (x4 : Int32) (σ : Wd), GO cX2_build RX2 5 15 sc0 nI0 nJ0 some (f_X2_build_L19 N KO47 n x1 x3 x4 σ) 19 (mkp 0 5 [(0, .ref 4), (1, .long x1), (3, .int x3), (4, .int x4)]) [] σ
  | 0, x1, x3, x4, σ => GO.none
  | n + 1, x1, x3, x4, σ => by
    exact (by refine GO.to (md_X2_build N) (kl := [(47, fun vs st σ => kS0 st (KO47 σ)), (19, fun vs st σ => kS0 st (kA 0 4 vs (kJ 1 vs (fun x1 => kI 3 vs (fun x3 => kI 4 vs (fun x4 => f_X2_build_L19 N KO47 n x1 x3 x4 σ))))))]) (List.forall_mem_cons.mpr ⟨fun vs st σ => go_kS0 (GO.pat [] trivial (hKO47 σ)), List.forall_mem_cons.mpr ⟨fun vs st σ => go_kS0 (go_kA (fun h0 => go_kJ (fun x1 h1 => go_kI (fun x3 h3 => go_kI (fun x4 h4 => GO.pat [(0, .ref 4), (1, .long x1), (3, .int x3), (4, .int x4)] ⟨h0, h1, h3, h4, trivial⟩ (g_X2_build_L19 N KO47 hKO47 n x1 x3 x4 σ)))))), (fun _ z => absurd z List.not_mem_nil)⟩⟩) 30 ?_ ?_ <;> rfl)
set_option maxRecDepth 200000 in
theorem g_X2_build_J47 (N : Nat) (σ : Wd) : GO cX2_build RX2 5 15 sc0 nI0 nJ0 some (f_X2_build_J47 N σ) 47 (mkp 0 5 []) [] σ := by
  exact (by refine GO.to (md_X2_build N) (kl := []) ((fun _ z => absurd z List.not_mem_nil)) 30 ?_ ?_ <;> rfl)
set_option maxRecDepth 200000 in
theorem C_X2_build (N : Nat) : CTV 15 yX2_build cX2_build 5 none (a_X2_build N) := by
  refine CTV.of (own := RX2) (by decide) rfl (fun as σ r h => ?_)
  unfold a_X2_build at h
  rcases kSE_s h with ⟨r0, rfl, h0⟩ | hn
  ·
    obtain ⟨b1, r1, rfl, h1⟩ := kSJ_s h0
    obtain ⟨rfl, h9⟩ := kS0_s h1
    exact ⟨Nat.le_of_ble_eq_true rfl, by refine GO.to (md_X2_build N) (kl := [(19, fun vs st σ => kS0 st (kA 0 4 vs (kJ 1 vs (fun x1 => kI 3 vs (fun x3 => kI 4 vs (fun x4 => f_X2_build_L19 N (f_X2_build_J47 N) N x1 x3 x4 σ))))))]) (List.forall_mem_cons.mpr ⟨fun vs st σ => go_kS0 (go_kA (fun h0 => go_kJ (fun x1 h1 => go_kI (fun x3 h3 => go_kI (fun x4 h4 => GO.pat [(0, .ref 4), (1, .long x1), (3, .int x3), (4, .int x4)] ⟨h0, h1, h3, h4, trivial⟩ (g_X2_build_L19 N (f_X2_build_J47 N) (g_X2_build_J47 N) N x1 x3 x4 σ)))))), (fun _ z => absurd z List.not_mem_nil)⟩) 30 ?_ ?_ <;> rfl⟩
  cases hn
def T_X2_gatesOfBoth : List (Nat × Ent) := [(0, .aload_n 0, 1, []), (1, .invokevirtual 100, 4, []), (4, .aload_n 0, 5, []), (5, .lload_n 1, 6, []), (6, .invokevirtual 103, 9, []), (9, .aload_n 0, 10, []), (10, .invokevirtual 107, 13, []), (13, .aload_n 0, 14, []), (14, .getfield 49, 17, []), (17, .istore 5, 19, []), (19, .bipush 27, 21, []), (21, .istore 6, 23, []), (23, .iload 6, 25, []), (25, .iload 5, 27, []), (27, .if_icmp .ge 23, 30, [50]), (30, .aload_n 0, 31, []), (31, .getfield 34, 34, []), (34, .iload 6, 36, []), (36, .aload_n 0, 37, []), (37, .getfield 21, 40, []), (40, .iload 6, 42, []), (42, .baload, 43, []), (43, .bastore, 44, []), (44, .iinc 6 1, 47, []), (47, .goto (-24), 50, [23]), (50, .aload_n 0, 51, []), (51, .lload_n 3, 52, []), (52, .invokevirtual 103, 55, []), (55, .aload_n 0, 56, []), (56, .invokevirtual 107, 59, []), (59, .iconst 0, 60, []), (60, .istore 6, 62, []), (62, .bipush 27, 64, []), (64, .istore 7, 66, []), (66, .iload 7, 68, []), (68, .iload 5, 70, []), (70, .if_icmp .ge 32, 73, [102]), (73, .aload_n 0, 74, []), (74, .getfield 21, 77, []), (77, .iload 7, 79, []), (79, .baload, 80, []), (80, .ifCond .eq 16, 83, [96]), (83, .aload_n 0, 84, []), (84, .getfield 34, 87, []), (87, .iload 7, 89, []), (89, .baload, 90, []), (90, .ifCond .eq 6, 93, [96]), (93, .iinc 6 1, 96, []), (96, .iinc 7 1, 99, []), (99, .goto (-33), 102, [66]), (102, .iload 6, 104, []), (104, .ireturn, 105, [])]
set_option maxRecDepth 200000 in
theorem tc_X2_gatesOfBoth : T_X2_gatesOfBoth.all (chk cX2_gatesOfBoth) = true := by decide +kernel
def f_X2_gatesOfBoth_L23 (N : Nat) (KO50 : Int64 → Int32 → Wd → Option (Int32 × Wd)) : Nat → Int64 → Int32 → Int32 → Wd → Option (Int32 × Wd)
  | 0, _, _, _, _ => none
  | n + 1, x3, x5, x6, σ => if x5 ≤ x6 then (KO50 x3 x5 σ) else ((xld σ 21 512 x6).bind fun v4 => (xstZ σ 25 512 x6 v4).bind fun σ5 => f_X2_gatesOfBoth_L23 N KO50 n x3 x5 (x6 + 1) σ5)
def f_X2_gatesOfBoth_L66 (N : Nat) (KO102 : Int32 → Wd → Option (Int32 × Wd)) : Nat → Int32 → Int32 → Int32 → Wd → Option (Int32 × Wd)
  | 0, _, _, _, _ => none
  | n + 1, x5, x6, x7, σ => if x5 ≤ x7 then (KO102 x6 σ) else ((xld σ 21 512 x7).bind fun v8 => if v8 = 0 then (f_X2_gatesOfBoth_L66 N KO102 n x5 x6 (x7 + 1) σ) else ((xld σ 25 512 x7).bind fun v9 => if v9 = 0 then (f_X2_gatesOfBoth_L66 N KO102 n x5 x6 (x7 + 1) σ) else (f_X2_gatesOfBoth_L66 N KO102 n x5 (x6 + 1) (x7 + 1) σ)))
def f_X2_gatesOfBoth_J102 (N : Nat) (x6 : Int32) (σ : Wd) : Option (Int32 × Wd) :=
  some (x6, σ)
def f_X2_gatesOfBoth_J50 (N : Nat) (x3 : Int64) (x5 : Int32) (σ : Wd) : Option (Int32 × Wd) :=
  (f_X2_build N x3 σ).bind fun σ6 => (f_X2_markUsed N σ6).bind fun σ7 => f_X2_gatesOfBoth_L66 N (f_X2_gatesOfBoth_J102 N) N x5 0 27 σ7
def f_X2_gatesOfBoth (N : Nat) (a1 : Int64) (a3 : Int64) (σ : Wd) : Option (Int32 × Wd) :=
  (f_X2_clear N σ).bind fun σ1 => (f_X2_build N a1 σ1).bind fun σ2 => (f_X2_markUsed N σ2).bind fun σ3 => f_X2_gatesOfBoth_L23 N (f_X2_gatesOfBoth_J50 N) N a3 (σ3.1 4 5) 27 σ3
def a_X2_gatesOfBoth (N : Nat) : List Value → Wd → Option (Int32 × Wd) := fun as σ => kSE 4 as (fun r0 => kSJ r0 (fun b1 r1 => kSJ r1 (fun b2 r2 => kS0 r2 (f_X2_gatesOfBoth N b1 b2 σ)))) (none)
set_option maxRecDepth 200000 in
theorem k_X2_100 : calchk RX2 100 1 2 yX2_clear cX2_clear 2 none = true := by decide +kernel
set_option maxRecDepth 200000 in
theorem k_X2_103 : calchk RX2 103 2 2 yX2_build cX2_build 5 none = true := by decide +kernel
set_option maxRecDepth 200000 in
theorem k_X2_107 : calchk RX2 107 1 2 yX2_markUsed cX2_markUsed 2 none = true := by decide +kernel
def ct_X2_gatesOfBoth (N : Nat) : List (Nat × Cal) := [(100, 1, 2, .inr (.inr (a_X2_clear N))), (103, 2, 2, .inr (.inr (a_X2_build N))), (107, 1, 2, .inr (.inr (a_X2_markUsed N)))]
set_option maxRecDepth 200000 in
theorem md_X2_gatesOfBoth (N : Nat) : MDOK T_X2_gatesOfBoth ft_X2 lt_X2 (ct_X2_gatesOfBoth N) cX2_gatesOfBoth RX2 16 := ⟨tc_X2_gatesOfBoth, fc_X2, lc_X2, List.forall_mem_cons.mpr ⟨Or.inl ⟨yX2_clear, cX2_clear, 2, none, 1, k_X2_100, Nat.le_of_ble_eq_true rfl, C_X2_clear N⟩, List.forall_mem_cons.mpr ⟨Or.inl ⟨yX2_build, cX2_build, 5, none, 15, k_X2_103, Nat.le_of_ble_eq_true rfl, C_X2_build N⟩, List.forall_mem_cons.mpr ⟨Or.inl ⟨yX2_markUsed, cX2_markUsed, 2, none, 2, k_X2_107, Nat.le_of_ble_eq_true rfl, C_X2_markUsed N⟩, (fun _ z => absurd z List.not_mem_nil)⟩⟩⟩⟩
set_option maxRecDepth 200000 in
theorem g_X2_gatesOfBoth_L23 (N : Nat) (KO50 : Int64 → Int32 → Wd → Option (Int32 × Wd)) (hKO50 : ∀ (x3 : Int64) (x5 : Int32) (σ : Wd), GO cX2_gatesOfBoth RX2 8 16 sc0 rI nJ0 nV0 (KO50 x3 x5 σ) 50 (mkp 0 8 [(0, .ref 4), (3, .long x3), (5, .int x5)]) [] σ) : ∀ (n : Nat), ∀ (x3 : Int64) (x5 : Int32) (x6 : Int32) (σ : Wd), GO cX2_gatesOfBoth RX2 8 16 sc0 rI nJ0 nV0 (f_X2_gatesOfBoth_L23 N KO50 n x3 x5 x6 σ) 23 (mkp 0 8 [(0, .ref 4), (3, .long x3), (5, .int x5), (6, .int x6)]) [] σ
  | 0, x3, x5, x6, σ => GO.none
  | n + 1, x3, x5, x6, σ => by
    exact (by refine GO.to (md_X2_gatesOfBoth N) (kl := [(50, fun vs st σ => kS0 st (kA 0 4 vs (kJ 3 vs (fun x3 => kI 5 vs (fun x5 => KO50 x3 x5 σ))))), (23, fun vs st σ => kS0 st (kA 0 4 vs (kJ 3 vs (fun x3 => kI 5 vs (fun x5 => kI 6 vs (fun x6 => f_X2_gatesOfBoth_L23 N KO50 n x3 x5 x6 σ))))))]) (List.forall_mem_cons.mpr ⟨fun vs st σ => go_kS0 (go_kA (fun h0 => go_kJ (fun x3 h3 => go_kI (fun x5 h5 => GO.pat [(0, .ref 4), (3, .long x3), (5, .int x5)] ⟨h0, h3, h5, trivial⟩ (hKO50 x3 x5 σ))))), List.forall_mem_cons.mpr ⟨fun vs st σ => go_kS0 (go_kA (fun h0 => go_kJ (fun x3 h3 => go_kI (fun x5 h5 => go_kI (fun x6 h6 => GO.pat [(0, .ref 4), (3, .long x3), (5, .int x5), (6, .int x6)] ⟨h0, h3, h5, h6, trivial⟩ (g_X2_gatesOfBoth_L23 N KO50 hKO50 n x3 x5 x6 σ)))))), (fun _ z => absurd z List.not_mem_nil)⟩⟩) 57 ?_ ?_ <;> rfl)
set_option maxRecDepth 200000 in
theorem g_X2_gatesOfBoth_L66 (N : Nat) (KO102 : Int32 → Wd → Option (Int32 × Wd)) (hKO102 : ∀ (x6 : Int32) (σ : Wd), GO cX2_gatesOfBoth RX2 8 16 sc0 rI nJ0 nV0 (KO102 x6 σ) 102 (mkp 0 8 [(6, .int x6)]) [] σ) : ∀ (n : Nat), ∀ (x5 : Int32) (x6 : Int32) (x7 : Int32) (σ : Wd), GO cX2_gatesOfBoth RX2 8 16 sc0 rI nJ0 nV0 (f_X2_gatesOfBoth_L66 N KO102 n x5 x6 x7 σ) 66 (mkp 0 8 [(0, .ref 4), (5, .int x5), (6, .int x6), (7, .int x7)]) [] σ
  | 0, x5, x6, x7, σ => GO.none
  | n + 1, x5, x6, x7, σ => by
    exact (by refine GO.to (md_X2_gatesOfBoth N) (kl := [(102, fun vs st σ => kS0 st (kI 6 vs (fun x6 => KO102 x6 σ))), (66, fun vs st σ => kS0 st (kA 0 4 vs (kI 5 vs (fun x5 => kI 6 vs (fun x6 => kI 7 vs (fun x7 => f_X2_gatesOfBoth_L66 N KO102 n x5 x6 x7 σ))))))]) (List.forall_mem_cons.mpr ⟨fun vs st σ => go_kS0 (go_kI (fun x6 h6 => GO.pat [(6, .int x6)] ⟨h6, trivial⟩ (hKO102 x6 σ))), List.forall_mem_cons.mpr ⟨fun vs st σ => go_kS0 (go_kA (fun h0 => go_kI (fun x5 h5 => go_kI (fun x6 h6 => go_kI (fun x7 h7 => GO.pat [(0, .ref 4), (5, .int x5), (6, .int x6), (7, .int x7)] ⟨h0, h5, h6, h7, trivial⟩ (g_X2_gatesOfBoth_L66 N KO102 hKO102 n x5 x6 x7 σ)))))), (fun _ z => absurd z List.not_mem_nil)⟩⟩) 57 ?_ ?_ <;> rfl)
set_option maxRecDepth 200000 in
theorem g_X2_gatesOfBoth_J102 (N : Nat) (x6 : Int32) (σ : Wd) : GO cX2_gatesOfBoth RX2 8 16 sc0 rI nJ0 nV0 (f_X2_gatesOfBoth_J102 N x6 σ) 102 (mkp 0 8 [(6, .int x6)]) [] σ := by
  exact (by refine GO.to (md_X2_gatesOfBoth N) (kl := []) ((fun _ z => absurd z List.not_mem_nil)) 57 ?_ ?_ <;> rfl)
set_option maxRecDepth 200000 in
theorem g_X2_gatesOfBoth_J50 (N : Nat) (x3 : Int64) (x5 : Int32) (σ : Wd) : GO cX2_gatesOfBoth RX2 8 16 sc0 rI nJ0 nV0 (f_X2_gatesOfBoth_J50 N x3 x5 σ) 50 (mkp 0 8 [(0, .ref 4), (3, .long x3), (5, .int x5)]) [] σ := by
  exact (by refine GO.to (md_X2_gatesOfBoth N) (kl := [(66, fun vs st σ => kS0 st (kA 0 4 vs (kI 5 vs (fun x5 => kI 6 vs (fun x6 => kI 7 vs (fun x7 => f_X2_gatesOfBoth_L66 N (f_X2_gatesOfBoth_J102 N) N x5 x6 x7 σ))))))]) (List.forall_mem_cons.mpr ⟨fun vs st σ => go_kS0 (go_kA (fun h0 => go_kI (fun x5 h5 => go_kI (fun x6 h6 => go_kI (fun x7 h7 => GO.pat [(0, .ref 4), (5, .int x5), (6, .int x6), (7, .int x7)] ⟨h0, h5, h6, h7, trivial⟩ (g_X2_gatesOfBoth_L66 N (f_X2_gatesOfBoth_J102 N) (g_X2_gatesOfBoth_J102 N) N x5 x6 x7 σ)))))), (fun _ z => absurd z List.not_mem_nil)⟩) 57 ?_ ?_ <;> rfl)
set_option maxRecDepth 200000 in
theorem C_X2_gatesOfBoth (N : Nat) : CTI 16 yX2_gatesOfBoth cX2_gatesOfBoth 8 (some .int) (a_X2_gatesOfBoth N) := by
  refine CTI.of (own := RX2) (by decide) rfl (fun as σ r h => ?_)
  unfold a_X2_gatesOfBoth at h
  rcases kSE_s h with ⟨r0, rfl, h0⟩ | hn
  ·
    obtain ⟨b1, r1, rfl, h1⟩ := kSJ_s h0
    obtain ⟨b2, r2, rfl, h2⟩ := kSJ_s h1
    obtain ⟨rfl, h9⟩ := kS0_s h2
    exact ⟨Nat.le_of_ble_eq_true rfl, by refine GO.to (md_X2_gatesOfBoth N) (kl := [(23, fun vs st σ => kS0 st (kA 0 4 vs (kJ 3 vs (fun x3 => kI 5 vs (fun x5 => kI 6 vs (fun x6 => f_X2_gatesOfBoth_L23 N (f_X2_gatesOfBoth_J50 N) N x3 x5 x6 σ))))))]) (List.forall_mem_cons.mpr ⟨fun vs st σ => go_kS0 (go_kA (fun h0 => go_kJ (fun x3 h3 => go_kI (fun x5 h5 => go_kI (fun x6 h6 => GO.pat [(0, .ref 4), (3, .long x3), (5, .int x5), (6, .int x6)] ⟨h0, h3, h5, h6, trivial⟩ (g_X2_gatesOfBoth_L23 N (f_X2_gatesOfBoth_J50 N) (g_X2_gatesOfBoth_J50 N) N x3 x5 x6 σ)))))), (fun _ z => absurd z List.not_mem_nil)⟩) 57 ?_ ?_ <;> rfl⟩
  cases hn
