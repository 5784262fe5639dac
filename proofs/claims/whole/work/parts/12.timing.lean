def ft_X8 : List (Nat × FTE) := [(9, 7, 0, 3), (15, 7, 1, 3), (20, 7, 2, 3), (23, 7, 3, 3), (26, 7, 4, 3), (30, 7, 5, 3), (36, 1, 5, 0), (44, 1, 0, 3), (47, 1, 6, 0), (71, 1, 1, 3), (78, 1, 2, 3)]
def lt_X8 : List (Nat × Int64) := []
theorem fc_X8 : ft_X8.all (fun e => fldchk RX8 e && shchk e) = true := by decide +kernel
theorem lc_X8 : lt_X8.all (ltchk RX8) = true := by decide +kernel
def T_X8_hangingInputs : List (Nat × Ent) := [(0, .iconst 0, 1, []), (1, .istore_n 1, 2, []), (2, .iconst 0, 3, []), (3, .istore_n 2, 4, []), (4, .iload_n 2, 5, []), (5, .bipush 25, 7, []), (7, .if_icmp .ge 26, 10, [33]), (10, .aload_n 0, 11, []), (11, .getfield 26, 14, []), (14, .iconst 2, 15, []), (15, .iload_n 2, 16, []), (16, .iadd, 17, []), (17, .baload, 18, []), (18, .ifCond .eq 9, 21, [27]), (21, .iload_n 1, 22, []), (22, .iconst 1, 23, []), (23, .iload_n 2, 24, []), (24, .ishl, 25, []), (25, .ior, 26, []), (26, .istore_n 1, 27, []), (27, .iinc 2 1, 30, []), (30, .goto (-26), 33, [4]), (33, .iload_n 1, 34, []), (34, .ireturn, 35, [])]
set_option maxRecDepth 200000 in
theorem tc_X8_hangingInputs : T_X8_hangingInputs.all (chk cX8_hangingInputs) = true := by decide +kernel
def f_X8_hangingInputs_L4 (N : Nat) (KO33 : Int32 → Wd → Option (Int32 × Wd)) : Nat → Int32 → Int32 → Wd → Option (Int32 × Wd)
  | 0, _, _, _ => none
  | n + 1, x1, x2, σ => if 25 ≤ x2 then (KO33 x1 σ) else ((xld σ 34 512 (2 + x2)).bind fun v1 => if v1 = 0 then (f_X8_hangingInputs_L4 N KO33 n x1 (x2 + 1) σ) else (f_X8_hangingInputs_L4 N KO33 n (x1 ||| (1 <<< (x2 &&& 31))) (x2 + 1) σ))
def f_X8_hangingInputs_J33 (N : Nat) (x1 : Int32) (σ : Wd) : Option (Int32 × Wd) :=
  some (x1, σ)
def f_X8_hangingInputs (N : Nat) (σ : Wd) : Option (Int32 × Wd) :=
  f_X8_hangingInputs_L4 N (f_X8_hangingInputs_J33 N) N 0 0 σ
def a_X8_hangingInputs (N : Nat) : List Value → Wd → Option (Int32 × Wd) := fun as σ => kSE 5 as (fun r0 => kS0 r0 (f_X8_hangingInputs N σ)) (none)
def ct_X8_hangingInputs (N : Nat) : List (Nat × Cal) := []
set_option maxRecDepth 200000 in
theorem md_X8_hangingInputs (N : Nat) : MDOK T_X8_hangingInputs ft_X8 lt_X8 (ct_X8_hangingInputs N) cX8_hangingInputs RX8 1 := ⟨tc_X8_hangingInputs, fc_X8, lc_X8, (fun _ z => absurd z List.not_mem_nil)⟩
set_option maxRecDepth 200000 in
theorem g_X8_hangingInputs_L4 (N : Nat) (KO33 : Int32 → Wd → Option (Int32 × Wd)) (hKO33 : ∀ (x1 : Int32) (σ : Wd), GO cX8_hangingInputs RX8 3 1 sc0 rI nJ0 nV0 (KO33 x1 σ) 33 (mkp 0 3 [(1, .int x1)]) [] σ) : ∀ (n : Nat), ∀ (x1 : Int32) (x2 : Int32) (σ : Wd), GO cX8_hangingInputs RX8 3 1 sc0 rI nJ0 nV0 (f_X8_hangingInputs_L4 N KO33 n x1 x2 σ) 4 (mkp 0 3 [(0, .ref 5), (1, .int x1), (2, .int x2)]) [] σ
  | 0, x1, x2, σ => GO.none
  | n + 1, x1, x2, σ => by
    exact (by refine GO.to (md_X8_hangingInputs N) (kl := [(33, fun vs st σ => kS0 st (kI 1 vs (fun x1 => KO33 x1 σ))), (4, fun vs st σ => kS0 st (kA 0 5 vs (kI 1 vs (fun x1 => kI 2 vs (fun x2 => f_X8_hangingInputs_L4 N KO33 n x1 x2 σ)))))]) (List.forall_mem_cons.mpr ⟨fun vs st σ => go_kS0 (go_kI (fun x1 h1 => GO.pat [(1, .int x1)] ⟨h1, trivial⟩ (hKO33 x1 σ))), List.forall_mem_cons.mpr ⟨fun vs st σ => go_kS0 (go_kA (fun h0 => go_kI (fun x1 h1 => go_kI (fun x2 h2 => GO.pat [(0, .ref 5), (1, .int x1), (2, .int x2)] ⟨h0, h1, h2, trivial⟩ (g_X8_hangingInputs_L4 N KO33 hKO33 n x1 x2 σ))))), (fun _ z => absurd z List.not_mem_nil)⟩⟩) 29 ?_ ?_ <;> rfl)
set_option maxRecDepth 200000 in
theorem g_X8_hangingInputs_J33 (N : Nat) (x1 : Int32) (σ : Wd) : GO cX8_hangingInputs RX8 3 1 sc0 rI nJ0 nV0 (f_X8_hangingInputs_J33 N x1 σ) 33 (mkp 0 3 [(1, .int x1)]) [] σ := by
  exact (by refine GO.to (md_X8_hangingInputs N) (kl := []) ((fun _ z => absurd z List.not_mem_nil)) 29 ?_ ?_ <;> rfl)
set_option maxRecDepth 200000 in
theorem C_X8_hangingInputs (N : Nat) : CTI 1 yX8_hangingInputs cX8_hangingInputs 3 (some .int) (a_X8_hangingInputs N) := by
  refine CTI.of (own := RX8) (by decide) rfl (fun as σ r h => ?_)
  unfold a_X8_hangingInputs at h
  rcases kSE_s h with ⟨r0, rfl, h0⟩ | hn
  ·
    obtain ⟨rfl, h9⟩ := kS0_s h0
    exact ⟨Nat.le_of_ble_eq_true rfl, by refine GO.to (md_X8_hangingInputs N) (kl := [(4, fun vs st σ => kS0 st (kA 0 5 vs (kI 1 vs (fun x1 => kI 2 vs (fun x2 => f_X8_hangingInputs_L4 N (f_X8_hangingInputs_J33 N) N x1 x2 σ)))))]) (List.forall_mem_cons.mpr ⟨fun vs st σ => go_kS0 (go_kA (fun h0 => go_kI (fun x1 h1 => go_kI (fun x2 h2 => GO.pat [(0, .ref 5), (1, .int x1), (2, .int x2)] ⟨h0, h1, h2, trivial⟩ (g_X8_hangingInputs_L4 N (f_X8_hangingInputs_J33 N) (g_X8_hangingInputs_J33 N) N x1 x2 σ))))), (fun _ z => absurd z List.not_mem_nil)⟩) 29 ?_ ?_ <;> rfl⟩
  cases hn
def T_X8_inputsArrive : List (Nat × Ent) := [(0, .aload_n 0, 1, []), (1, .getfield 20, 4, []), (4, .iconst 0, 5, []), (5, .iconst 0, 6, []), (6, .iastore, 7, []), (7, .aload_n 0, 8, []), (8, .getfield 20, 11, []), (11, .iconst 1, 12, []), (12, .iconst 0, 13, []), (13, .iastore, 14, []), (14, .iconst 0, 15, []), (15, .istore_n 1, 16, []), (16, .iload_n 1, 17, []), (17, .bipush 25, 19, []), (19, .if_icmp .ge 23, 22, [42]), (22, .aload_n 0, 23, []), (23, .getfield 20, 26, []), (26, .iconst 2, 27, []), (27, .iload_n 1, 28, []), (28, .iadd, 29, []), (29, .aload_n 0, 30, []), (30, .getfield 15, 33, []), (33, .iload_n 1, 34, []), (34, .iaload, 35, []), (35, .iastore, 36, []), (36, .iinc 1 1, 39, []), (39, .goto (-23), 42, [16]), (42, .return_, 43, [])]
set_option maxRecDepth 200000 in
theorem tc_X8_inputsArrive : T_X8_inputsArrive.all (chk cX8_inputsArrive) = true := by decide +kernel
def f_X8_inputsArrive_L16 (N : Nat) (KO42 : Wd → Option Wd) : Nat → Int32 → Wd → Option Wd
  | 0, _, _ => none
  | n + 1, x1, σ => if 25 ≤ x1 then (KO42 σ) else ((xld σ 31 25 x1).bind fun v3 => (xst σ 32 512 (2 + x1) v3).bind fun σ4 => f_X8_inputsArrive_L16 N KO42 n (x1 + 1) σ4)
def f_X8_inputsArrive_J42 (N : Nat) (σ : Wd) : Option Wd :=
  some σ
def f_X8_inputsArrive (N : Nat) (σ : Wd) : Option Wd :=
  (xst σ 32 512 0 0).bind fun σ1 => (xst σ1 32 512 1 0).bind fun σ2 => f_X8_inputsArrive_L16 N (f_X8_inputsArrive_J42 N) N 0 σ2
def a_X8_inputsArrive (N : Nat) : List Value → Wd → Option Wd := fun as σ => kSE 5 as (fun r0 => kS0 r0 (f_X8_inputsArrive N σ)) (none)
def ct_X8_inputsArrive (N : Nat) : List (Nat × Cal) := []
set_option maxRecDepth 200000 in
theorem md_X8_inputsArrive (N : Nat) : MDOK T_X8_inputsArrive ft_X8 lt_X8 (ct_X8_inputsArrive N) cX8_inputsArrive RX8 1 := ⟨tc_X8_inputsArrive, fc_X8, lc_X8, (fun _ z => absurd z List.not_mem_nil)⟩
set_option maxRecDepth 200000 in
theorem g_X8_inputsArrive_L16 (N : Nat) (KO42 : Wd → Option Wd) (hKO42 : ∀ (σ : Wd), GO cX8_inputsArrive RX8 2 1 sc0 nI0 nJ0 some (KO42 σ) 42 (mkp 0 2 []) [] σ) : ∀ (n : Nat), ∀ (x1 : Int32) (σ : Wd), GO cX8_inputsArrive RX8 2 1 sc0 nI0 nJ0 some (f_X8_inputsArrive_L16 N KO42 n x1 σ) 16 (mkp 0 2 [(0, .ref 5), (1, .int x1)]) [] σ
  | 0, x1, σ => GO.none
  | n + 1, x1, σ => by
    exact (by refine GO.to (md_X8_inputsArrive N) (kl := [(42, fun vs st σ => kS0 st (KO42 σ)), (16, fun vs st σ => kS0 st (kA 0 5 vs (kI 1 vs (fun x1 => f_X8_inputsArrive_L16 N KO42 n x1 σ))))]) (List.forall_mem_cons.mpr ⟨fun vs st σ => go_kS0 (GO.pat [] trivial (hKO42 σ)), List.forall_mem_cons.mpr ⟨fun vs st σ => go_kS0 (go_kA (fun h0 => go_kI (fun x1 h1 => GO.pat [(0, .ref 5), (1, .int x1)] ⟨h0, h1, trivial⟩ (g_X8_inputsArrive_L16 N KO42 hKO42 n x1 σ)))), (fun _ z => absurd z List.not_mem_nil)⟩⟩) 33 ?_ ?_ <;> rfl)
set_option maxRecDepth 200000 in
theorem g_X8_inputsArrive_J42 (N : Nat) (σ : Wd) : GO cX8_inputsArrive RX8 2 1 sc0 nI0 nJ0 some (f_X8_inputsArrive_J42 N σ) 42 (mkp 0 2 []) [] σ := by
  exact (by refine GO.to (md_X8_inputsArrive N) (kl := []) ((fun _ z => absurd z List.not_mem_nil)) 33 ?_ ?_ <;> rfl)
set_option maxRecDepth 200000 in
theorem C_X8_inputsArrive (N : Nat) : CTV 1 yX8_inputsArrive cX8_inputsArrive 2 none (a_X8_inputsArrive N) := by
  refine CTV.of (own := RX8) (by decide) rfl (fun as σ r h => ?_)
  unfold a_X8_inputsArrive at h
  rcases kSE_s h with ⟨r0, rfl, h0⟩ | hn
  ·
    obtain ⟨rfl, h9⟩ := kS0_s h0
    exact ⟨Nat.le_of_ble_eq_true rfl, by refine GO.to (md_X8_inputsArrive N) (kl := [(16, fun vs st σ => kS0 st (kA 0 5 vs (kI 1 vs (fun x1 => f_X8_inputsArrive_L16 N (f_X8_inputsArrive_J42 N) N x1 σ))))]) (List.forall_mem_cons.mpr ⟨fun vs st σ => go_kS0 (go_kA (fun h0 => go_kI (fun x1 h1 => GO.pat [(0, .ref 5), (1, .int x1)] ⟨h0, h1, trivial⟩ (g_X8_inputsArrive_L16 N (f_X8_inputsArrive_J42 N) (g_X8_inputsArrive_J42 N) N x1 σ)))), (fun _ z => absurd z List.not_mem_nil)⟩) 33 ?_ ?_ <;> rfl⟩
  cases hn
def T_X8_isRuled : List (Nat × Ent) := [(0, .iload_n 0, 1, []), (1, .iconst 1, 2, []), (2, .if_icmp .ne 7, 5, [9]), (5, .iload_n 1, 6, []), (6, .ifCond .eq 13, 9, [19]), (9, .iload_n 0, 10, []), (10, .iconst 2, 11, []), (11, .if_icmp .ne 12, 14, [23]), (14, .iload_n 1, 15, []), (15, .iconst 1, 16, []), (16, .if_icmp .ne 7, 19, [23]), (19, .iconst 1, 20, []), (20, .goto 4, 23, [24]), (23, .iconst 0, 24, []), (24, .ireturn, 25, [])]
set_option maxRecDepth 200000 in
theorem tc_X8_isRuled : T_X8_isRuled.all (chk cX8_isRuled) = true := by decide +kernel
def f_X8_isRuled_J9 (N : Nat) (x0 : Int32) (x1 : Int32) (σ : Wd) : Option (Int32 × Wd) :=
  if x0 = 2 then (if x1 = 1 then (some (1, σ)) else (some (0, σ))) else (some (0, σ))
def f_X8_isRuled (N : Nat) (a0 : Int32) (a1 : Int32) (σ : Wd) : Option (Int32 × Wd) :=
  if a0 = 1 then (if a1 = 0 then (some (1, σ)) else (f_X8_isRuled_J9 N a0 a1 σ)) else (f_X8_isRuled_J9 N a0 a1 σ)
def a_X8_isRuled (N : Nat) : List Value → Wd → Option (Int32 × Wd) := fun as σ => kSI as (fun b0 r0 => kSI r0 (fun b1 r1 => kS0 r1 (f_X8_isRuled N b0 b1 σ)))
def ct_X8_isRuled (N : Nat) : List (Nat × Cal) := []
set_option maxRecDepth 200000 in
theorem md_X8_isRuled (N : Nat) : MDOK T_X8_isRuled ft_X8 lt_X8 (ct_X8_isRuled N) cX8_isRuled RX8 1 := ⟨tc_X8_isRuled, fc_X8, lc_X8, (fun _ z => absurd z List.not_mem_nil)⟩
set_option maxRecDepth 200000 in
theorem g_X8_isRuled_J9 (N : Nat) (x0 : Int32) (x1 : Int32) (σ : Wd) : GO cX8_isRuled RX8 2 1 sc0 rZ nJ0 nV0 (f_X8_isRuled_J9 N x0 x1 σ) 9 (mkp 0 2 [(0, .int x0), (1, .int x1)]) [] σ := by
  exact (by refine GO.to (md_X8_isRuled N) (kl := []) ((fun _ z => absurd z List.not_mem_nil)) 20 ?_ ?_ <;> rfl)
set_option maxRecDepth 200000 in
theorem C_X8_isRuled (N : Nat) : CTI 1 yX8_isRuled cX8_isRuled 2 (some .boolean) (a_X8_isRuled N) := by
  refine CTZ.of (own := RX8) (by decide) rfl (fun as σ r h => ?_)
  unfold a_X8_isRuled at h
  obtain ⟨b0, r0, rfl, h0⟩ := kSI_s h
  obtain ⟨b1, r1, rfl, h1⟩ := kSI_s h0
  obtain ⟨rfl, h9⟩ := kS0_s h1
  exact ⟨Nat.le_of_ble_eq_true rfl, by refine GO.to (md_X8_isRuled N) (kl := [(9, fun vs st σ => kS0 st (kI 0 vs (fun x0 => kI 1 vs (fun x1 => f_X8_isRuled_J9 N x0 x1 σ))))]) (List.forall_mem_cons.mpr ⟨fun vs st σ => go_kS0 (go_kI (fun x0 h0 => go_kI (fun x1 h1 => GO.pat [(0, .int x0), (1, .int x1)] ⟨h0, h1, trivial⟩ (g_X8_isRuled_J9 N x0 x1 σ)))), (fun _ z => absurd z List.not_mem_nil)⟩) 20 ?_ ?_ <;> rfl⟩
def T_X8_valueOf : List (Nat × Ent) := [(0, .aload_n 0, 1, []), (1, .getfield 23, 4, []), (4, .aload_n 1, 5, []), (5, .getfield 71, 8, []), (8, .iload_n 2, 9, []), (9, .iaload, 10, []), (10, .iaload, 11, []), (11, .istore_n 3, 12, []), (12, .aload_n 0, 13, []), (13, .getfield 23, 16, []), (16, .aload_n 1, 17, []), (17, .getfield 78, 20, []), (20, .iload_n 2, 21, []), (21, .iaload, 22, []), (22, .iaload, 23, []), (23, .istore 4, 25, []), (25, .aload_n 1, 26, []), (26, .getfield 44, 29, []), (29, .iload_n 2, 30, []), (30, .iaload, 31, []), (31, .tableswitch 40 1 3 #[25, 30, 35], 56, [71, 56, 61, 66]), (56, .iload_n 3, 57, []), (57, .iload 4, 59, []), (59, .iand, 60, []), (60, .ireturn, 61, []), (61, .iload_n 3, 62, []), (62, .iload 4, 64, []), (64, .ior, 65, []), (65, .ireturn, 66, []), (66, .iload_n 3, 67, []), (67, .iload 4, 69, []), (69, .ixor, 70, []), (70, .ireturn, 71, []), (71, .iconst 1, 72, []), (72, .iload_n 3, 73, []), (73, .isub, 74, []), (74, .ireturn, 75, [])]
set_option maxRecDepth 200000 in
theorem tc_X8_valueOf : T_X8_valueOf.all (chk cX8_valueOf) = true := by decide +kernel
def f_X8_valueOf (N : Nat) (a2 : Int32) (σ : Wd) : Option (Int32 × Wd) :=
  (xld σ 19 512 a2).bind fun v1 => (xld σ 33 512 v1).bind fun v2 => (xld σ 20 512 a2).bind fun v3 => (xld σ 33 512 v3).bind fun v4 => (xld σ 18 512 a2).bind fun v5 => if v5 = 1 then (some (v2 &&& v4, σ)) else if v5 = 2 then (some (v2 ||| v4, σ)) else if v5 = 3 then (some (v2 ^^^ v4, σ)) else (some (1 - v2, σ))
def a_X8_valueOf (N : Nat) : List Value → Wd → Option (Int32 × Wd) := fun as σ => kSE 5 as (fun r0 => kSE 4 r0 (fun r1 => kSI r1 (fun b2 r2 => kS0 r2 (f_X8_valueOf N b2 σ))) (none)) (none)
def ct_X8_valueOf (N : Nat) : List (Nat × Cal) := []
set_option maxRecDepth 200000 in
theorem md_X8_valueOf (N : Nat) : MDOK T_X8_valueOf ft_X8 lt_X8 (ct_X8_valueOf N) cX8_valueOf RX8 1 := ⟨tc_X8_valueOf, fc_X8, lc_X8, (fun _ z => absurd z List.not_mem_nil)⟩
set_option maxRecDepth 200000 in
theorem C_X8_valueOf (N : Nat) : CTI 1 yX8_valueOf cX8_valueOf 5 (some .int) (a_X8_valueOf N) := by
  refine CTI.of (own := RX8) (by decide) rfl (fun as σ r h => ?_)
  unfold a_X8_valueOf at h
  rcases kSE_s h with ⟨r0, rfl, h0⟩ | hn
  ·
    rcases kSE_s h0 with ⟨r1, rfl, h1⟩ | h0n
    ·
      obtain ⟨b2, r2, rfl, h2⟩ := kSI_s h1
      obtain ⟨rfl, h9⟩ := kS0_s h2
      exact ⟨Nat.le_of_ble_eq_true rfl, by refine GO.to (md_X8_valueOf N) (kl := []) ((fun _ z => absurd z List.not_mem_nil)) 42 ?_ ?_ <;> rfl⟩
    cases h0n
  cases hn
def T_X8_isHeldUpBy : List (Nat × Ent) := [(0, .aload_n 0, 1, []), (1, .getfield 20, 4, []), (4, .iload_n 3, 5, []), (5, .iaload, 6, []), (6, .aload_n 0, 7, []), (7, .getfield 20, 10, []), (10, .iload_n 2, 11, []), (11, .iaload, 12, []), (12, .aload_n 0, 13, []), (13, .getfield 9, 16, []), (16, .aload_n 1, 17, []), (17, .getfield 44, 20, []), (20, .iload_n 2, 21, []), (21, .iaload, 22, []), (22, .iaload, 23, []), (23, .isub, 24, []), (24, .if_icmp .ne 7, 27, [31]), (27, .iconst 1, 28, []), (28, .goto 4, 31, [32]), (31, .iconst 0, 32, []), (32, .ireturn, 33, [])]
set_option maxRecDepth 200000 in
theorem tc_X8_isHeldUpBy : T_X8_isHeldUpBy.all (chk cX8_isHeldUpBy) = true := by decide +kernel
def f_X8_isHeldUpBy (N : Nat) (a2 : Int32) (a3 : Int32) (σ : Wd) : Option (Int32 × Wd) :=
  (xld σ 32 512 a3).bind fun v1 => (xld σ 32 512 a2).bind fun v2 => (xld σ 18 512 a2).bind fun v3 => (xld σ 30 4 v3).bind fun v4 => if v1 = (v2 - v4) then (some (1, σ)) else (some (0, σ))
def a_X8_isHeldUpBy (N : Nat) : List Value → Wd → Option (Int32 × Wd) := fun as σ => kSE 5 as (fun r0 => kSE 4 r0 (fun r1 => kSI r1 (fun b2 r2 => kSI r2 (fun b3 r3 => kS0 r3 (f_X8_isHeldUpBy N b2 b3 σ)))) (none)) (none)
def ct_X8_isHeldUpBy (N : Nat) : List (Nat × Cal) := []
set_option maxRecDepth 200000 in
theorem md_X8_isHeldUpBy (N : Nat) : MDOK T_X8_isHeldUpBy ft_X8 lt_X8 (ct_X8_isHeldUpBy N) cX8_isHeldUpBy RX8 1 := ⟨tc_X8_isHeldUpBy, fc_X8, lc_X8, (fun _ z => absurd z List.not_mem_nil)⟩
set_option maxRecDepth 200000 in
theorem C_X8_isHeldUpBy (N : Nat) : CTI 1 yX8_isHeldUpBy cX8_isHeldUpBy 4 (some .boolean) (a_X8_isHeldUpBy N) := by
  refine CTZ.of (own := RX8) (by decide) rfl (fun as σ r h => ?_)
  unfold a_X8_isHeldUpBy at h
  rcases kSE_s h with ⟨r0, rfl, h0⟩ | hn
  ·
    rcases kSE_s h0 with ⟨r1, rfl, h1⟩ | h0n
    ·
      obtain ⟨b2, r2, rfl, h2⟩ := kSI_s h1
      obtain ⟨b3, r3, rfl, h3⟩ := kSI_s h2
      obtain ⟨rfl, h9⟩ := kS0_s h3
      exact ⟨Nat.le_of_ble_eq_true rfl, by refine GO.to (md_X8_isHeldUpBy N) (kl := []) ((fun _ z => absurd z List.not_mem_nil)) 26 ?_ ?_ <;> rfl⟩
    cases h0n
  cases hn
def T_X8_outcomeBits : List (Nat × Ent) := [(0, .iconst 0, 1, []), (1, .istore_n 2, 2, []), (2, .iconst 0, 3, []), (3, .istore_n 3, 4, []), (4, .iload_n 3, 5, []), (5, .aload_n 1, 6, []), (6, .getfield 47, 9, []), (9, .if_icmp .gt 24, 12, [33]), (12, .iload_n 2, 13, []), (13, .aload_n 0, 14, []), (14, .getfield 23, 17, []), (17, .aload_n 1, 18, []), (18, .iload_n 3, 19, []), (19, .invokevirtual 64, 22, []), (22, .iaload, 23, []), (23, .iload_n 3, 24, []), (24, .ishl, 25, []), (25, .ior, 26, []), (26, .istore_n 2, 27, []), (27, .iinc 3 1, 30, []), (30, .goto (-26), 33, [4]), (33, .iload_n 2, 34, []), (34, .ireturn, 35, [])]
set_option maxRecDepth 200000 in
theorem tc_X8_outcomeBits : T_X8_outcomeBits.all (chk cX8_outcomeBits) = true := by decide +kernel
def f_X8_outcomeBits_L4 (N : Nat) (KO33 : Int32 → Wd → Option (Int32 × Wd)) : Nat → Int32 → Int32 → Wd → Option (Int32 × Wd)
  | 0, _, _, _ => none
  | n + 1, x2, x3, σ => if (σ.1 4 6) < x3 then (KO33 x2 σ) else ((f_X2_outcomeGate N x3 σ).bind fun p1 => (xld p1.2 33 512 p1.1).bind fun v2 => f_X8_outcomeBits_L4 N KO33 n (x2 ||| (v2 <<< (x3 &&& 31))) (x3 + 1) p1.2)
def f_X8_outcomeBits_J33 (N : Nat) (x2 : Int32) (σ : Wd) : Option (Int32 × Wd) :=
  some (x2, σ)
def f_X8_outcomeBits (N : Nat) (σ : Wd) : Option (Int32 × Wd) :=
  f_X8_outcomeBits_L4 N (f_X8_outcomeBits_J33 N) N 0 0 σ
def a_X8_outcomeBits (N : Nat) : List Value → Wd → Option (Int32 × Wd) := fun as σ => kSE 5 as (fun r0 => kSE 4 r0 (fun r1 => kS0 r1 (f_X8_outcomeBits N σ)) (none)) (none)
set_option maxRecDepth 200000 in
theorem k_X8_64 : calchk RX8 64 2 2 yX2_outcomeGate cX2_outcomeGate 2 (some .int) = true := by decide +kernel
def ct_X8_outcomeBits (N : Nat) : List (Nat × Cal) := [(64, 2, 2, .inl (a_X2_outcomeGate N))]
set_option maxRecDepth 200000 in
theorem md_X8_outcomeBits (N : Nat) : MDOK T_X8_outcomeBits ft_X8 lt_X8 (ct_X8_outcomeBits N) cX8_outcomeBits RX8 2 := ⟨tc_X8_outcomeBits, fc_X8, lc_X8, List.forall_mem_cons.mpr ⟨Or.inl ⟨yX2_outcomeGate, cX2_outcomeGate, 2, (some .int), 1, k_X8_64, Nat.le_of_ble_eq_true rfl, C_X2_outcomeGate N⟩, (fun _ z => absurd z List.not_mem_nil)⟩⟩
set_option maxRecDepth 200000 in
theorem g_X8_outcomeBits_L4 (N : Nat) (KO33 : Int32 → Wd → Option (Int32 × Wd)) (hKO33 : ∀ (x2 : Int32) (σ : Wd), GO cX8_outcomeBits RX8 4 2 sc0 rI nJ0 nV0 (KO33 x2 σ) 33 (mkp 0 4 [(2, .int x2)]) [] σ) : ∀ (n : Nat), ∀ (x2 : Int32) (x3 : Int32) (σ : Wd), GO cX8_outcomeBits RX8 4 2 sc0 rI nJ0 nV0 (f_X8_outcomeBits_L4 N KO33 n x2 x3 σ) 4 (mkp 0 4 [(0, .ref 5), (1, .ref 4), (2, .int x2), (3, .int x3)]) [] σ
  | 0, x2, x3, σ => GO.none
  | n + 1, x2, x3, σ => by
    exact (by refine GO.to (md_X8_outcomeBits N) (kl := [(33, fun vs st σ => kS0 st (kI 2 vs (fun x2 => KO33 x2 σ))), (4, fun vs st σ => kS0 st (kA 0 5 vs (kA 1 4 vs (kI 2 vs (fun x2 => kI 3 vs (fun x3 => f_X8_outcomeBits_L4 N KO33 n x2 x3 σ))))))]) (List.forall_mem_cons.mpr ⟨fun vs st σ => go_kS0 (go_kI (fun x2 h2 => GO.pat [(2, .int x2)] ⟨h2, trivial⟩ (hKO33 x2 σ))), List.forall_mem_cons.mpr ⟨fun vs st σ => go_kS0 (go_kA (fun h0 => go_kA (fun h1 => go_kI (fun x2 h2 => go_kI (fun x3 h3 => GO.pat [(0, .ref 5), (1, .ref 4), (2, .int x2), (3, .int x3)] ⟨h0, h1, h2, h3, trivial⟩ (g_X8_outcomeBits_L4 N KO33 hKO33 n x2 x3 σ)))))), (fun _ z => absurd z List.not_mem_nil)⟩⟩) 28 ?_ ?_ <;> rfl)
set_option maxRecDepth 200000 in
theorem g_X8_outcomeBits_J33 (N : Nat) (x2 : Int32) (σ : Wd) : GO cX8_outcomeBits RX8 4 2 sc0 rI nJ0 nV0 (f_X8_outcomeBits_J33 N x2 σ) 33 (mkp 0 4 [(2, .int x2)]) [] σ := by
  exact (by refine GO.to (md_X8_outcomeBits N) (kl := []) ((fun _ z => absurd z List.not_mem_nil)) 28 ?_ ?_ <;> rfl)
set_option maxRecDepth 200000 in
theorem C_X8_outcomeBits (N : Nat) : CTI 2 yX8_outcomeBits cX8_outcomeBits 4 (some .int) (a_X8_outcomeBits N) := by
  refine CTI.of (own := RX8) (by decide) rfl (fun as σ r h => ?_)
  unfold a_X8_outcomeBits at h
  rcases kSE_s h with ⟨r0, rfl, h0⟩ | hn
  ·
    rcases kSE_s h0 with ⟨r1, rfl, h1⟩ | h0n
    ·
      obtain ⟨rfl, h9⟩ := kS0_s h1
      exact ⟨Nat.le_of_ble_eq_true rfl, by refine GO.to (md_X8_outcomeBits N) (kl := [(4, fun vs st σ => kS0 st (kA 0 5 vs (kA 1 4 vs (kI 2 vs (fun x2 => kI 3 vs (fun x3 => f_X8_outcomeBits_L4 N (f_X8_outcomeBits_J33 N) N x2 x3 σ))))))]) (List.forall_mem_cons.mpr ⟨fun vs st σ => go_kS0 (go_kA (fun h0 => go_kA (fun h1 => go_kI (fun x2 h2 => go_kI (fun x3 h3 => GO.pat [(0, .ref 5), (1, .ref 4), (2, .int x2), (3, .int x3)] ⟨h0, h1, h2, h3, trivial⟩ (g_X8_outcomeBits_L4 N (f_X8_outcomeBits_J33 N) (g_X8_outcomeBits_J33 N) N x2 x3 σ)))))), (fun _ z => absurd z List.not_mem_nil)⟩) 28 ?_ ?_ <;> rfl⟩
    cases h0n
  cases hn
def T_X8_lastOutcome : List (Nat × Ent) := [(0, .iconst 0, 1, []), (1, .istore_n 2, 2, []), (2, .iconst 0, 3, []), (3, .istore_n 3, 4, []), (4, .iload_n 3, 5, []), (5, .aload_n 1, 6, []), (6, .getfield 47, 9, []), (9, .if_icmp .gt 24, 12, [33]), (12, .iload_n 2, 13, []), (13, .aload_n 0, 14, []), (14, .getfield 20, 17, []), (17, .aload_n 1, 18, []), (18, .iload_n 3, 19, []), (19, .invokevirtual 64, 22, []), (22, .iaload, 23, []), (23, .invokestatic 85, 26, []), (26, .istore_n 2, 27, []), (27, .iinc 3 1, 30, []), (30, .goto (-26), 33, [4]), (33, .iload_n 2, 34, []), (34, .ireturn, 35, [])]
set_option maxRecDepth 200000 in
theorem tc_X8_lastOutcome : T_X8_lastOutcome.all (chk cX8_lastOutcome) = true := by decide +kernel
def f_X8_lastOutcome_L4 (N : Nat) (KO33 : Int32 → Wd → Option (Int32 × Wd)) : Nat → Int32 → Int32 → Wd → Option (Int32 × Wd)
  | 0, _, _, _ => none
  | n + 1, x2, x3, σ => if (σ.1 4 6) < x3 then (KO33 x2 σ) else ((f_X2_outcomeGate N x3 σ).bind fun p1 => (xld p1.2 32 512 p1.1).bind fun v2 => (f_J9_max_7cf53 N x2 v2 p1.2).bind fun p3 => f_X8_lastOutcome_L4 N KO33 n p3.1 (x3 + 1) p3.2)
def f_X8_lastOutcome_J33 (N : Nat) (x2 : Int32) (σ : Wd) : Option (Int32 × Wd) :=
  some (x2, σ)
def f_X8_lastOutcome (N : Nat) (σ : Wd) : Option (Int32 × Wd) :=
  f_X8_lastOutcome_L4 N (f_X8_lastOutcome_J33 N) N 0 0 σ
def a_X8_lastOutcome (N : Nat) : List Value → Wd → Option (Int32 × Wd) := fun as σ => kSE 5 as (fun r0 => kSE 4 r0 (fun r1 => kS0 r1 (f_X8_lastOutcome N σ)) (none)) (none)
set_option maxRecDepth 200000 in
theorem k_X8_85 : mmchk RX8 85 Lib.Math.max.name Lib.Math.max.code = true := by decide +kernel
def ct_X8_lastOutcome (N : Nat) : List (Nat × Cal) := [(64, 2, 2, .inl (a_X2_outcomeGate N)), (85, 2, 0, .inl amax)]
set_option maxRecDepth 200000 in
theorem md_X8_lastOutcome (N : Nat) : MDOK T_X8_lastOutcome ft_X8 lt_X8 (ct_X8_lastOutcome N) cX8_lastOutcome RX8 2 := ⟨tc_X8_lastOutcome, fc_X8, lc_X8, List.forall_mem_cons.mpr ⟨Or.inl ⟨yX2_outcomeGate, cX2_outcomeGate, 2, (some .int), 1, k_X8_64, Nat.le_of_ble_eq_true rfl, C_X2_outcomeGate N⟩, List.forall_mem_cons.mpr ⟨Or.inr (Or.inl ⟨rfl, k_X8_85, Nat.le_of_ble_eq_true rfl⟩), (fun _ z => absurd z List.not_mem_nil)⟩⟩⟩
set_option maxRecDepth 200000 in
theorem g_X8_lastOutcome_L4 (N : Nat) (KO33 : Int32 → Wd → Option (Int32 × Wd)) (hKO33 : ∀ (x2 : Int32) (σ : Wd), GO cX8_lastOutcome RX8 4 2 sc0 rI nJ0 nV0 (KO33 x2 σ) 33 (mkp 0 4 [(2, .int x2)]) [] σ) : ∀ (n : Nat), ∀ (x2 : Int32) (x3 : Int32) (σ : Wd), GO cX8_lastOutcome RX8 4 2 sc0 rI nJ0 nV0 (f_X8_lastOutcome_L4 N KO33 n x2 x3 σ) 4 (mkp 0 4 [(0, .ref 5), (1, .ref 4), (2, .int x2), (3, .int x3)]) [] σ
  | 0, x2, x3, σ => GO.none
  | n + 1, x2, x3, σ => by
    exact (by refine GO.to (md_X8_lastOutcome N) (kl := [(33, fun vs st σ => kS0 st (kI 2 vs (fun x2 => KO33 x2 σ))), (4, fun vs st σ => kS0 st (kA 0 5 vs (kA 1 4 vs (kI 2 vs (fun x2 => kI 3 vs (fun x3 => f_X8_lastOutcome_L4 N KO33 n x2 x3 σ))))))]) (List.forall_mem_cons.mpr ⟨fun vs st σ => go_kS0 (go_kI (fun x2 h2 => GO.pat [(2, .int x2)] ⟨h2, trivial⟩ (hKO33 x2 σ))), List.forall_mem_cons.mpr ⟨fun vs st σ => go_kS0 (go_kA (fun h0 => go_kA (fun h1 => go_kI (fun x2 h2 => go_kI (fun x3 h3 => GO.pat [(0, .ref 5), (1, .ref 4), (2, .int x2), (3, .int x3)] ⟨h0, h1, h2, h3, trivial⟩ (g_X8_lastOutcome_L4 N KO33 hKO33 n x2 x3 σ)))))), (fun _ z => absurd z List.not_mem_nil)⟩⟩) 26 ?_ ?_ <;> rfl)
set_option maxRecDepth 200000 in
theorem g_X8_lastOutcome_J33 (N : Nat) (x2 : Int32) (σ : Wd) : GO cX8_lastOutcome RX8 4 2 sc0 rI nJ0 nV0 (f_X8_lastOutcome_J33 N x2 σ) 33 (mkp 0 4 [(2, .int x2)]) [] σ := by
  exact (by refine GO.to (md_X8_lastOutcome N) (kl := []) ((fun _ z => absurd z List.not_mem_nil)) 26 ?_ ?_ <;> rfl)
set_option maxRecDepth 200000 in
theorem C_X8_lastOutcome (N : Nat) : CTI 2 yX8_lastOutcome cX8_lastOutcome 4 (some .int) (a_X8_lastOutcome N) := by
  refine CTI.of (own := RX8) (by decide) rfl (fun as σ r h => ?_)
  unfold a_X8_lastOutcome at h
  rcases kSE_s h with ⟨r0, rfl, h0⟩ | hn
  ·
    rcases kSE_s h0 with ⟨r1, rfl, h1⟩ | h0n
    ·
      obtain ⟨rfl, h9⟩ := kS0_s h1
      exact ⟨Nat.le_of_ble_eq_true rfl, by refine GO.to (md_X8_lastOutcome N) (kl := [(4, fun vs st σ => kS0 st (kA 0 5 vs (kA 1 4 vs (kI 2 vs (fun x2 => kI 3 vs (fun x3 => f_X8_lastOutcome_L4 N (f_X8_lastOutcome_J33 N) N x2 x3 σ))))))]) (List.forall_mem_cons.mpr ⟨fun vs st σ => go_kS0 (go_kA (fun h0 => go_kA (fun h1 => go_kI (fun x2 h2 => go_kI (fun x3 h3 => GO.pat [(0, .ref 5), (1, .ref 4), (2, .int x2), (3, .int x3)] ⟨h0, h1, h2, h3, trivial⟩ (g_X8_lastOutcome_L4 N (f_X8_lastOutcome_J33 N) (g_X8_lastOutcome_J33 N) N x2 x3 σ)))))), (fun _ z => absurd z List.not_mem_nil)⟩) 26 ?_ ?_ <;> rfl⟩
    cases h0n
  cases hn
def T_X8_laterPart : List (Nat × Ent) := [(0, .aload_n 0, 1, []), (1, .getfield 20, 4, []), (4, .aload_n 1, 5, []), (5, .getfield 71, 8, []), (8, .iload_n 2, 9, []), (9, .iaload, 10, []), (10, .iaload, 11, []), (11, .aload_n 0, 12, []), (12, .getfield 20, 15, []), (15, .aload_n 1, 16, []), (16, .getfield 78, 19, []), (19, .iload_n 2, 20, []), (20, .iaload, 21, []), (21, .iaload, 22, []), (22, .invokestatic 85, 25, []), (25, .ireturn, 26, [])]
set_option maxRecDepth 200000 in
theorem tc_X8_laterPart : T_X8_laterPart.all (chk cX8_laterPart) = true := by decide +kernel
def f_X8_laterPart (N : Nat) (a2 : Int32) (σ : Wd) : Option (Int32 × Wd) :=
  (xld σ 19 512 a2).bind fun v1 => (xld σ 32 512 v1).bind fun v2 => (xld σ 20 512 a2).bind fun v3 => (xld σ 32 512 v3).bind fun v4 => (f_J9_max_7cf53 N v2 v4 σ).bind fun p5 => some (p5.1, p5.2)
def a_X8_laterPart (N : Nat) : List Value → Wd → Option (Int32 × Wd) := fun as σ => kSE 5 as (fun r0 => kSE 4 r0 (fun r1 => kSI r1 (fun b2 r2 => kS0 r2 (f_X8_laterPart N b2 σ))) (none)) (none)
def ct_X8_laterPart (N : Nat) : List (Nat × Cal) := [(85, 2, 0, .inl amax)]
set_option maxRecDepth 200000 in
theorem md_X8_laterPart (N : Nat) : MDOK T_X8_laterPart ft_X8 lt_X8 (ct_X8_laterPart N) cX8_laterPart RX8 2 := ⟨tc_X8_laterPart, fc_X8, lc_X8, List.forall_mem_cons.mpr ⟨Or.inr (Or.inl ⟨rfl, k_X8_85, Nat.le_of_ble_eq_true rfl⟩), (fun _ z => absurd z List.not_mem_nil)⟩⟩
set_option maxRecDepth 200000 in
theorem C_X8_laterPart (N : Nat) : CTI 2 yX8_laterPart cX8_laterPart 3 (some .int) (a_X8_laterPart N) := by
  refine CTI.of (own := RX8) (by decide) rfl (fun as σ r h => ?_)
  unfold a_X8_laterPart at h
  rcases kSE_s h with ⟨r0, rfl, h0⟩ | hn
  ·
    rcases kSE_s h0 with ⟨r1, rfl, h1⟩ | h0n
    ·
      obtain ⟨b2, r2, rfl, h2⟩ := kSI_s h1
      obtain ⟨rfl, h9⟩ := kS0_s h2
      exact ⟨Nat.le_of_ble_eq_true rfl, by refine GO.to (md_X8_laterPart N) (kl := []) ((fun _ z => absurd z List.not_mem_nil)) 21 ?_ ?_ <;> rfl⟩
    cases h0n
  cases hn
def T_X8_rulingPart : List (Nat × Ent) := [(0, .aload_n 1, 1, []), (1, .getfield 71, 4, []), (4, .iload_n 2, 5, []), (5, .iaload, 6, []), (6, .istore_n 3, 7, []), (7, .aload_n 1, 8, []), (8, .getfield 78, 11, []), (11, .iload_n 2, 12, []), (12, .iaload, 13, []), (13, .istore 4, 15, []), (15, .aload_n 0, 16, []), (16, .getfield 23, 19, []), (19, .iload_n 3, 20, []), (20, .iaload, 21, []), (21, .aload_n 0, 22, []), (22, .getfield 23, 25, []), (25, .iload_n 2, 26, []), (26, .iaload, 27, []), (27, .if_icmp .eq 11, 30, [38]), (30, .aload_n 0, 31, []), (31, .getfield 20, 34, []), (34, .iload 4, 36, []), (36, .iaload, 37, []), (37, .ireturn, 38, []), (38, .aload_n 0, 39, []), (39, .getfield 23, 42, []), (42, .iload 4, 44, []), (44, .iaload, 45, []), (45, .aload_n 0, 46, []), (46, .getfield 23, 49, []), (49, .iload_n 2, 50, []), (50, .iaload, 51, []), (51, .if_icmp .ne 22, 54, [73]), (54, .aload_n 0, 55, []), (55, .getfield 20, 58, []), (58, .iload_n 3, 59, []), (59, .iaload, 60, []), (60, .aload_n 0, 61, []), (61, .getfield 20, 64, []), (64, .iload 4, 66, []), (66, .iaload, 67, []), (67, .invokestatic 91, 70, []), (70, .goto 9, 73, [79]), (73, .aload_n 0, 74, []), (74, .getfield 20, 77, []), (77, .iload_n 3, 78, []), (78, .iaload, 79, []), (79, .ireturn, 80, [])]
set_option maxRecDepth 200000 in
theorem tc_X8_rulingPart : T_X8_rulingPart.all (chk cX8_rulingPart) = true := by decide +kernel
def f_X8_rulingPart (N : Nat) (a2 : Int32) (σ : Wd) : Option (Int32 × Wd) :=
  (xld σ 19 512 a2).bind fun v1 => (xld σ 20 512 a2).bind fun v2 => (xld σ 33 512 v1).bind fun v3 => (xld σ 33 512 a2).bind fun v4 => if v3 = v4 then ((xld σ 33 512 v2).bind fun v5 => (xld σ 33 512 a2).bind fun v6 => if v5 = v6 then ((xld σ 32 512 v1).bind fun v7 => (xld σ 32 512 v2).bind fun v8 => (f_J9_min_7cf53 N v7 v8 σ).bind fun p9 => some (p9.1, p9.2)) else ((xld σ 32 512 v1).bind fun v10 => some (v10, σ))) else ((xld σ 32 512 v2).bind fun v11 => some (v11, σ))
def a_X8_rulingPart (N : Nat) : List Value → Wd → Option (Int32 × Wd) := fun as σ => kSE 5 as (fun r0 => kSE 4 r0 (fun r1 => kSI r1 (fun b2 r2 => kS0 r2 (f_X8_rulingPart N b2 σ))) (none)) (none)
set_option maxRecDepth 200000 in
theorem k_X8_91 : mmchk RX8 91 Lib.Math.min.name Lib.Math.min.code = true := by decide +kernel
def ct_X8_rulingPart (N : Nat) : List (Nat × Cal) := [(91, 2, 0, .inl amin)]
set_option maxRecDepth 200000 in
theorem md_X8_rulingPart (N : Nat) : MDOK T_X8_rulingPart ft_X8 lt_X8 (ct_X8_rulingPart N) cX8_rulingPart RX8 2 := ⟨tc_X8_rulingPart, fc_X8, lc_X8, List.forall_mem_cons.mpr ⟨Or.inr (Or.inr ⟨rfl, k_X8_91, Nat.le_of_ble_eq_true rfl⟩), (fun _ z => absurd z List.not_mem_nil)⟩⟩
set_option maxRecDepth 200000 in
theorem C_X8_rulingPart (N : Nat) : CTI 2 yX8_rulingPart cX8_rulingPart 5 (some .int) (a_X8_rulingPart N) := by
  refine CTI.of (own := RX8) (by decide) rfl (fun as σ r h => ?_)
  unfold a_X8_rulingPart at h
  rcases kSE_s h with ⟨r0, rfl, h0⟩ | hn
  ·
    rcases kSE_s h0 with ⟨r1, rfl, h1⟩ | h0n
    ·
      obtain ⟨b2, r2, rfl, h2⟩ := kSI_s h1
      obtain ⟨rfl, h9⟩ := kS0_s h2
      exact ⟨Nat.le_of_ble_eq_true rfl, by refine GO.to (md_X8_rulingPart N) (kl := []) ((fun _ z => absurd z List.not_mem_nil)) 53 ?_ ?_ <;> rfl⟩
    cases h0n
  cases hn
def T_X8_depthBelow : List (Nat × Ent) := [(0, .aload_n 0, 1, []), (1, .aload_n 1, 2, []), (2, .iload_n 2, 3, []), (3, .iload_n 3, 4, []), (4, .invokevirtual 74, 7, []), (7, .ifCond .eq 12, 10, [19]), (10, .aload_n 0, 11, []), (11, .getfield 30, 14, []), (14, .iload_n 3, 15, []), (15, .iaload, 16, []), (16, .goto 4, 19, [20]), (19, .iconst 0, 20, []), (20, .ireturn, 21, [])]
set_option maxRecDepth 200000 in
theorem tc_X8_depthBelow : T_X8_depthBelow.all (chk cX8_depthBelow) = true := by decide +kernel
def f_X8_depthBelow (N : Nat) (a2 : Int32) (a3 : Int32) (σ : Wd) : Option (Int32 × Wd) :=
  (f_X8_isHeldUpBy N a2 a3 σ).bind fun p1 => if p1.1 = 0 then (some (0, p1.2)) else ((xld p1.2 35 512 a3).bind fun v2 => some (v2, p1.2))
def a_X8_depthBelow (N : Nat) : List Value → Wd → Option (Int32 × Wd) := fun as σ => kSE 5 as (fun r0 => kSE 4 r0 (fun r1 => kSI r1 (fun b2 r2 => kSI r2 (fun b3 r3 => kS0 r3 (f_X8_depthBelow N b2 b3 σ)))) (none)) (none)
set_option maxRecDepth 200000 in
theorem k_X8_74 : calchk RX8 74 4 8 yX8_isHeldUpBy cX8_isHeldUpBy 4 (some .boolean) = true := by decide +kernel
def ct_X8_depthBelow (N : Nat) : List (Nat × Cal) := [(74, 4, 8, .inl (a_X8_isHeldUpBy N))]
set_option maxRecDepth 200000 in
theorem md_X8_depthBelow (N : Nat) : MDOK T_X8_depthBelow ft_X8 lt_X8 (ct_X8_depthBelow N) cX8_depthBelow RX8 2 := ⟨tc_X8_depthBelow, fc_X8, lc_X8, List.forall_mem_cons.mpr ⟨Or.inl ⟨yX8_isHeldUpBy, cX8_isHeldUpBy, 4, (some .boolean), 1, k_X8_74, Nat.le_of_ble_eq_true rfl, C_X8_isHeldUpBy N⟩, (fun _ z => absurd z List.not_mem_nil)⟩⟩
set_option maxRecDepth 200000 in
theorem C_X8_depthBelow (N : Nat) : CTI 2 yX8_depthBelow cX8_depthBelow 4 (some .int) (a_X8_depthBelow N) := by
  refine CTI.of (own := RX8) (by decide) rfl (fun as σ r h => ?_)
  unfold a_X8_depthBelow at h
  rcases kSE_s h with ⟨r0, rfl, h0⟩ | hn
  ·
    rcases kSE_s h0 with ⟨r1, rfl, h1⟩ | h0n
    ·
      obtain ⟨b2, r2, rfl, h2⟩ := kSI_s h1
      obtain ⟨b3, r3, rfl, h3⟩ := kSI_s h2
      obtain ⟨rfl, h9⟩ := kS0_s h3
      exact ⟨Nat.le_of_ble_eq_true rfl, by refine GO.to (md_X8_depthBelow N) (kl := []) ((fun _ z => absurd z List.not_mem_nil)) 18 ?_ ?_ <;> rfl⟩
    cases h0n
  cases hn
def T_X8_come : List (Nat × Ent) := [(0, .aload_n 0, 1, []), (1, .invokevirtual 33, 4, []), (4, .bipush 27, 6, []), (6, .istore_n 2, 7, []), (7, .iload_n 2, 8, []), (8, .aload_n 1, 9, []), (9, .getfield 36, 12, []), (12, .if_icmp .ge 33, 15, [45]), (15, .aload_n 0, 16, []), (16, .getfield 20, 19, []), (19, .iload_n 2, 20, []), (20, .aload_n 0, 21, []), (21, .aload_n 1, 22, []), (22, .iload_n 2, 23, []), (23, .invokevirtual 40, 26, []), (26, .aload_n 0, 27, []), (27, .getfield 9, 30, []), (30, .aload_n 1, 31, []), (31, .getfield 44, 34, []), (34, .iload_n 2, 35, []), (35, .iaload, 36, []), (36, .iaload, 37, []), (37, .iadd, 38, []), (38, .iastore, 39, []), (39, .iinc 2 1, 42, []), (42, .goto (-35), 45, [7]), (45, .return_, 46, [])]
set_option maxRecDepth 200000 in
theorem tc_X8_come : T_X8_come.all (chk cX8_come) = true := by decide +kernel
def f_X8_come_L7 (N : Nat) (KO45 : Wd → Option Wd) : Nat → Int32 → Wd → Option Wd
  | 0, _, _ => none
  | n + 1, x2, σ => if (σ.1 4 5) ≤ x2 then (KO45 σ) else ((f_X8_laterPart N x2 σ).bind fun p2 => (xld p2.2 18 512 x2).bind fun v3 => (xld p2.2 30 4 v3).bind fun v4 => (xst p2.2 32 512 x2 (p2.1 + v4)).bind fun σ5 => f_X8_come_L7 N KO45 n (x2 + 1) σ5)
def f_X8_come_J45 (N : Nat) (σ : Wd) : Option Wd :=
  some σ
def f_X8_come (N : Nat) (σ : Wd) : Option Wd :=
  (f_X8_inputsArrive N σ).bind fun σ1 => f_X8_come_L7 N (f_X8_come_J45 N) N 27 σ1
def a_X8_come (N : Nat) : List Value → Wd → Option Wd := fun as σ => kSE 5 as (fun r0 => kSE 4 r0 (fun r1 => kS0 r1 (f_X8_come N σ)) (none)) (none)
set_option maxRecDepth 200000 in
theorem k_X8_33 : calchk RX8 33 1 8 yX8_inputsArrive cX8_inputsArrive 2 none = true := by decide +kernel
set_option maxRecDepth 200000 in
theorem k_X8_40 : calchk RX8 40 3 8 yX8_laterPart cX8_laterPart 3 (some .int) = true := by decide +kernel
def ct_X8_come (N : Nat) : List (Nat × Cal) := [(33, 1, 8, .inr (.inr (a_X8_inputsArrive N))), (40, 3, 8, .inl (a_X8_laterPart N))]
set_option maxRecDepth 200000 in
theorem md_X8_come (N : Nat) : MDOK T_X8_come ft_X8 lt_X8 (ct_X8_come N) cX8_come RX8 3 := ⟨tc_X8_come, fc_X8, lc_X8, List.forall_mem_cons.mpr ⟨Or.inl ⟨yX8_inputsArrive, cX8_inputsArrive, 2, none, 1, k_X8_33, Nat.le_of_ble_eq_true rfl, C_X8_inputsArrive N⟩, List.forall_mem_cons.mpr ⟨Or.inl ⟨yX8_laterPart, cX8_laterPart, 3, (some .int), 2, k_X8_40, Nat.le_of_ble_eq_true rfl, C_X8_laterPart N⟩, (fun _ z => absurd z List.not_mem_nil)⟩⟩⟩
set_option maxRecDepth 200000 in
theorem g_X8_come_L7 (N : Nat) (KO45 : Wd → Option Wd) (hKO45 : ∀ (σ : Wd), GO cX8_come RX8 3 3 sc0 nI0 nJ0 some (KO45 σ) 45 (mkp 0 3 []) [] σ) : ∀ (n : Nat), ∀ (x2 : Int32) (σ : Wd), GO cX8_come RX8 3 3 sc0 nI0 nJ0 some (f_X8_come_L7 N KO45 n x2 σ) 7 (mkp 0 3 [(0, .ref 5), (1, .ref 4), (2, .int x2)]) [] σ
  | 0, x2, σ => GO.none
  | n + 1, x2, σ => by
    exact (by refine GO.to (md_X8_come N) (kl := [(45, fun vs st σ => kS0 st (KO45 σ)), (7, fun vs st σ => kS0 st (kA 0 5 vs (kA 1 4 vs (kI 2 vs (fun x2 => f_X8_come_L7 N KO45 n x2 σ)))))]) (List.forall_mem_cons.mpr ⟨fun vs st σ => go_kS0 (GO.pat [] trivial (hKO45 σ)), List.forall_mem_cons.mpr ⟨fun vs st σ => go_kS0 (go_kA (fun h0 => go_kA (fun h1 => go_kI (fun x2 h2 => GO.pat [(0, .ref 5), (1, .ref 4), (2, .int x2)] ⟨h0, h1, h2, trivial⟩ (g_X8_come_L7 N KO45 hKO45 n x2 σ))))), (fun _ z => absurd z List.not_mem_nil)⟩⟩) 32 ?_ ?_ <;> rfl)
set_option maxRecDepth 200000 in
theorem g_X8_come_J45 (N : Nat) (σ : Wd) : GO cX8_come RX8 3 3 sc0 nI0 nJ0 some (f_X8_come_J45 N σ) 45 (mkp 0 3 []) [] σ := by
  exact (by refine GO.to (md_X8_come N) (kl := []) ((fun _ z => absurd z List.not_mem_nil)) 32 ?_ ?_ <;> rfl)
set_option maxRecDepth 200000 in
theorem C_X8_come (N : Nat) : CTV 3 yX8_come cX8_come 3 none (a_X8_come N) := by
  refine CTV.of (own := RX8) (by decide) rfl (fun as σ r h => ?_)
  unfold a_X8_come at h
  rcases kSE_s h with ⟨r0, rfl, h0⟩ | hn
  ·
    rcases kSE_s h0 with ⟨r1, rfl, h1⟩ | h0n
    ·
      obtain ⟨rfl, h9⟩ := kS0_s h1
      exact ⟨Nat.le_of_ble_eq_true rfl, by refine GO.to (md_X8_come N) (kl := [(7, fun vs st σ => kS0 st (kA 0 5 vs (kA 1 4 vs (kI 2 vs (fun x2 => f_X8_come_L7 N (f_X8_come_J45 N) N x2 σ)))))]) (List.forall_mem_cons.mpr ⟨fun vs st σ => go_kS0 (go_kA (fun h0 => go_kA (fun h1 => go_kI (fun x2 h2 => GO.pat [(0, .ref 5), (1, .ref 4), (2, .int x2)] ⟨h0, h1, h2, trivial⟩ (g_X8_come_L7 N (f_X8_come_J45 N) (g_X8_come_J45 N) N x2 σ))))), (fun _ z => absurd z List.not_mem_nil)⟩) 32 ?_ ?_ <;> rfl⟩
    cases h0n
  cases hn
def T_X8_settle : List (Nat × Ent) := [(0, .aload_n 0, 1, []), (1, .invokevirtual 33, 4, []), (4, .aload_n 0, 5, []), (5, .getfield 23, 8, []), (8, .iconst 0, 9, []), (9, .iconst 0, 10, []), (10, .iastore, 11, []), (11, .aload_n 0, 12, []), (12, .getfield 23, 15, []), (15, .iconst 1, 16, []), (16, .iconst 1, 17, []), (17, .iastore, 18, []), (18, .aload_n 0, 19, []), (19, .getfield 23, 22, []), (22, .bipush 26, 24, []), (24, .iload 4, 26, []), (26, .iastore, 27, []), (27, .iconst 0, 28, []), (28, .istore 5, 30, []), (30, .iload 5, 32, []), (32, .aload_n 1, 33, []), (33, .getfield 47, 36, []), (36, .if_icmp .ge 40, 39, [76]), (39, .aload_n 0, 40, []), (40, .getfield 23, 43, []), (43, .iconst 2, 44, []), (44, .iload 5, 46, []), (46, .iadd, 47, []), (47, .iload_n 2, 48, []), (48, .iload 5, 50, []), (50, .ishr, 51, []), (51, .iconst 1, 52, []), (52, .iand, 53, []), (53, .iastore, 54, []), (54, .aload_n 0, 55, []), (55, .getfield 23, 58, []), (58, .bipush 14, 60, []), (60, .iload 5, 62, []), (62, .iadd, 63, []), (63, .iload_n 3, 64, []), (64, .iload 5, 66, []), (66, .ishr, 67, []), (67, .iconst 1, 68, []), (68, .iand, 69, []), (69, .iastore, 70, []), (70, .iinc 5 1, 73, []), (73, .goto (-43), 76, [30]), (76, .bipush 27, 78, []), (78, .istore 5, 80, []), (80, .iload 5, 82, []), (82, .aload_n 1, 83, []), (83, .getfield 36, 86, []), (86, .if_icmp .ge 84, 89, [170]), (89, .aload_n 0, 90, []), (90, .getfield 23, 93, []), (93, .iload 5, 95, []), (95, .aload_n 0, 96, []), (96, .aload_n 1, 97, []), (97, .iload 5, 99, []), (99, .invokevirtual 50, 102, []), (102, .iastore, 103, []), (103, .aload_n 1, 104, []), (104, .getfield 44, 107, []), (107, .iload 5, 109, []), (109, .iaload, 110, []), (110, .aload_n 0, 111, []), (111, .getfield 23, 114, []), (114, .iload 5, 116, []), (116, .iaload, 117, []), (117, .invokestatic 53, 120, []), (120, .ifCond .eq 13, 123, [133]), (123, .aload_n 0, 124, []), (124, .aload_n 1, 125, []), (125, .iload 5, 127, []), (127, .invokevirtual 57, 130, []), (130, .goto 10, 133, [140]), (133, .aload_n 0, 134, []), (134, .aload_n 1, 135, []), (135, .iload 5, 137, []), (137, .invokevirtual 40, 140, []), (140, .istore 6, 142, []), (142, .aload_n 0, 143, []), (143, .getfield 20, 146, []), (146, .iload 5, 148, []), (148, .iload 6, 150, []), (150, .aload_n 0, 151, []), (151, .getfield 9, 154, []), (154, .aload_n 1, 155, []), (155, .getfield 44, 158, []), (158, .iload 5, 160, []), (160, .iaload, 161, []), (161, .iaload, 162, []), (162, .iadd, 163, []), (163, .iastore, 164, []), (164, .iinc 5 1, 167, []), (167, .goto (-87), 170, [80]), (170, .return_, 171, [])]
set_option maxRecDepth 200000 in
theorem tc_X8_settle : T_X8_settle.all (chk cX8_settle) = true := by decide +kernel
def f_X8_settle_L30 (N : Nat) (KO76 : Wd → Option Wd) : Nat → Int32 → Int32 → Int32 → Wd → Option Wd
  | 0, _, _, _, _ => none
  | n + 1, x2, x3, x5, σ => if (σ.1 4 6) ≤ x5 then (KO76 σ) else ((xst σ 33 512 (2 + x5) ((x2 >>> (x5 &&& 31)) &&& 1)).bind fun σ5 => (xst σ5 33 512 (14 + x5) ((x3 >>> (x5 &&& 31)) &&& 1)).bind fun σ6 => f_X8_settle_L30 N KO76 n x2 x3 (x5 + 1) σ6)
def f_X8_settle_J140 (N : Nat) (KB : Int32 → Wd → Option Wd) (KO170 : Wd → Option Wd) (x5 : Int32) (y0 : Int32) (σ : Wd) : Option Wd :=
  (xld σ 18 512 x5).bind fun v13 => (xld σ 30 4 v13).bind fun v14 => (xst σ 32 512 x5 (y0 + v14)).bind fun σ15 => KB (x5 + 1) σ15
def f_X8_settle_L80 (N : Nat) (KO170 : Wd → Option Wd) : Nat → Int32 → Wd → Option Wd
  | 0, _, _ => none
  | n + 1, x5, σ => if (σ.1 4 5) ≤ x5 then (KO170 σ) else ((f_X8_valueOf N x5 σ).bind fun p7 => (xst p7.2 33 512 x5 p7.1).bind fun σ8 => (xld σ8 18 512 x5).bind fun v9 => (xld σ8 33 512 x5).bind fun v10 => (f_X8_isRuled N v9 v10 σ8).bind fun p11 => if p11.1 = 0 then ((f_X8_laterPart N x5 p11.2).bind fun p12 => f_X8_settle_J140 N (f_X8_settle_L80 N KO170 n) KO170 x5 p12.1 p12.2) else ((f_X8_rulingPart N x5 p11.2).bind fun p16 => f_X8_settle_J140 N (f_X8_settle_L80 N KO170 n) KO170 x5 p16.1 p16.2))
def f_X8_settle_J170 (N : Nat) (σ : Wd) : Option Wd :=
  some σ
def f_X8_settle_J76 (N : Nat) (σ : Wd) : Option Wd :=
  f_X8_settle_L80 N (f_X8_settle_J170 N) N 27 σ
def f_X8_settle (N : Nat) (a2 : Int32) (a3 : Int32) (a4 : Int32) (σ : Wd) : Option Wd :=
  (f_X8_inputsArrive N σ).bind fun σ1 => (xst σ1 33 512 0 0).bind fun σ2 => (xst σ2 33 512 1 1).bind fun σ3 => (xst σ3 33 512 26 a4).bind fun σ4 => f_X8_settle_L30 N (f_X8_settle_J76 N) N a2 a3 0 σ4
def a_X8_settle (N : Nat) : List Value → Wd → Option Wd := fun as σ => kSE 5 as (fun r0 => kSE 4 r0 (fun r1 => kSI r1 (fun b2 r2 => kSI r2 (fun b3 r3 => kSI r3 (fun b4 r4 => kS0 r4 (f_X8_settle N b2 b3 b4 σ))))) (none)) (none)
set_option maxRecDepth 200000 in
theorem k_X8_50 : calchk RX8 50 3 8 yX8_valueOf cX8_valueOf 5 (some .int) = true := by decide +kernel
set_option maxRecDepth 200000 in
theorem k_X8_53 : calchk RX8 53 2 0 yX8_isRuled cX8_isRuled 2 (some .boolean) = true := by decide +kernel
set_option maxRecDepth 200000 in
theorem k_X8_57 : calchk RX8 57 3 8 yX8_rulingPart cX8_rulingPart 5 (some .int) = true := by decide +kernel
def ct_X8_settle (N : Nat) : List (Nat × Cal) := [(33, 1, 8, .inr (.inr (a_X8_inputsArrive N))), (50, 3, 8, .inl (a_X8_valueOf N)), (53, 2, 0, .inl (a_X8_isRuled N)), (40, 3, 8, .inl (a_X8_laterPart N)), (57, 3, 8, .inl (a_X8_rulingPart N))]
set_option maxRecDepth 200000 in
theorem md_X8_settle (N : Nat) : MDOK T_X8_settle ft_X8 lt_X8 (ct_X8_settle N) cX8_settle RX8 3 := ⟨tc_X8_settle, fc_X8, lc_X8, List.forall_mem_cons.mpr ⟨Or.inl ⟨yX8_inputsArrive, cX8_inputsArrive, 2, none, 1, k_X8_33, Nat.le_of_ble_eq_true rfl, C_X8_inputsArrive N⟩, List.forall_mem_cons.mpr ⟨Or.inl ⟨yX8_valueOf, cX8_valueOf, 5, (some .int), 1, k_X8_50, Nat.le_of_ble_eq_true rfl, C_X8_valueOf N⟩, List.forall_mem_cons.mpr ⟨Or.inl ⟨yX8_isRuled, cX8_isRuled, 2, (some .boolean), 1, k_X8_53, Nat.le_of_ble_eq_true rfl, C_X8_isRuled N⟩, List.forall_mem_cons.mpr ⟨Or.inl ⟨yX8_laterPart, cX8_laterPart, 3, (some .int), 2, k_X8_40, Nat.le_of_ble_eq_true rfl, C_X8_laterPart N⟩, List.forall_mem_cons.mpr ⟨Or.inl ⟨yX8_rulingPart, cX8_rulingPart, 5, (some .int), 2, k_X8_57, Nat.le_of_ble_eq_true rfl, C_X8_rulingPart N⟩, (fun _ z => absurd z List.not_mem_nil)⟩⟩⟩⟩⟩⟩
set_option maxRecDepth 200000 in
theorem g_X8_settle_L30 (N : Nat) (KO76 : Wd → Option Wd) (hKO76 : ∀ (σ : Wd), GO cX8_settle RX8 7 3 sc0 nI0 nJ0 some (KO76 σ) 76 (mkp 0 7 [(0, .ref 5), (1, .ref 4)]) [] σ) : ∀ (n : Nat), ∀ (x2 : Int32) (x3 : Int32) (x5 : Int32) (σ : Wd), GO cX8_settle RX8 7 3 sc0 nI0 nJ0 some (f_X8_settle_L30 N KO76 n x2 x3 x5 σ) 30 (mkp 0 7 [(0, .ref 5), (1, .ref 4), (2, .int x2), (3, .int x3), (5, .int x5)]) [] σ
  | 0, x2, x3, x5, σ => GO.none
  | n + 1, x2, x3, x5, σ => by
    exact (by refine GO.to (md_X8_settle N) (kl := [(76, fun vs st σ => kS0 st (kA 0 5 vs (kA 1 4 vs (KO76 σ)))), (30, fun vs st σ => kS0 st (kA 0 5 vs (kA 1 4 vs (kI 2 vs (fun x2 => kI 3 vs (fun x3 => kI 5 vs (fun x5 => f_X8_settle_L30 N KO76 n x2 x3 x5 σ)))))))]) (List.forall_mem_cons.mpr ⟨fun vs st σ => go_kS0 (go_kA (fun h0 => go_kA (fun h1 => GO.pat [(0, .ref 5), (1, .ref 4)] ⟨h0, h1, trivial⟩ (hKO76 σ)))), List.forall_mem_cons.mpr ⟨fun vs st σ => go_kS0 (go_kA (fun h0 => go_kA (fun h1 => go_kI (fun x2 h2 => go_kI (fun x3 h3 => go_kI (fun x5 h5 => GO.pat [(0, .ref 5), (1, .ref 4), (2, .int x2), (3, .int x3), (5, .int x5)] ⟨h0, h1, h2, h3, h5, trivial⟩ (g_X8_settle_L30 N KO76 hKO76 n x2 x3 x5 σ))))))), (fun _ z => absurd z List.not_mem_nil)⟩⟩) 102 ?_ ?_ <;> rfl)
set_option maxRecDepth 200000 in
theorem g_X8_settle_J140 (N : Nat) (KB : Int32 → Wd → Option Wd) (hKB : ∀ (x5 : Int32) (σ : Wd), GO cX8_settle RX8 7 3 sc0 nI0 nJ0 some (KB x5 σ) 80 (mkp 0 7 [(0, .ref 5), (1, .ref 4), (5, .int x5)]) [] σ) (KO170 : Wd → Option Wd) (hKO170 : ∀ (σ : Wd), GO cX8_settle RX8 7 3 sc0 nI0 nJ0 some (KO170 σ) 170 (mkp 0 7 []) [] σ) (x5 : Int32) (y0 : Int32) (σ : Wd) : GO cX8_settle RX8 7 3 sc0 nI0 nJ0 some (f_X8_settle_J140 N KB KO170 x5 y0 σ) 140 (mkp 0 7 [(0, .ref 5), (1, .ref 4), (5, .int x5)]) [.int y0] σ := by
  exact (by refine GO.to (md_X8_settle N) (kl := [(80, fun vs st σ => kS0 st (kA 0 5 vs (kA 1 4 vs (kI 5 vs (fun x5 => KB x5 σ)))))]) (List.forall_mem_cons.mpr ⟨fun vs st σ => go_kS0 (go_kA (fun h0 => go_kA (fun h1 => go_kI (fun x5 h5 => GO.pat [(0, .ref 5), (1, .ref 4), (5, .int x5)] ⟨h0, h1, h5, trivial⟩ (hKB x5 σ))))), (fun _ z => absurd z List.not_mem_nil)⟩) 102 ?_ ?_ <;> rfl)
set_option maxRecDepth 200000 in
theorem g_X8_settle_L80 (N : Nat) (KO170 : Wd → Option Wd) (hKO170 : ∀ (σ : Wd), GO cX8_settle RX8 7 3 sc0 nI0 nJ0 some (KO170 σ) 170 (mkp 0 7 []) [] σ) : ∀ (n : Nat), ∀ (x5 : Int32) (σ : Wd), GO cX8_settle RX8 7 3 sc0 nI0 nJ0 some (f_X8_settle_L80 N KO170 n x5 σ) 80 (mkp 0 7 [(0, .ref 5), (1, .ref 4), (5, .int x5)]) [] σ
  | 0, x5, σ => GO.none
  | n + 1, x5, σ => by
    exact (by refine GO.to (md_X8_settle N) (kl := [(170, fun vs st σ => kS0 st (KO170 σ)), (140, fun vs st σ => kSti st (fun y0 => kA 0 5 vs (kA 1 4 vs (kI 5 vs (fun x5 => f_X8_settle_J140 N (f_X8_settle_L80 N KO170 n) KO170 x5 y0 σ)))))]) (List.forall_mem_cons.mpr ⟨fun vs st σ => go_kS0 (GO.pat [] trivial (hKO170 σ)), List.forall_mem_cons.mpr ⟨fun vs st σ => go_kSti (fun y0 => go_kA (fun h0 => go_kA (fun h1 => go_kI (fun x5 h5 => GO.pat [(0, .ref 5), (1, .ref 4), (5, .int x5)] ⟨h0, h1, h5, trivial⟩ (g_X8_settle_J140 N (f_X8_settle_L80 N KO170 n) (g_X8_settle_L80 N KO170 hKO170 n) KO170 hKO170 x5 y0 σ))))), (fun _ z => absurd z List.not_mem_nil)⟩⟩) 102 ?_ ?_ <;> rfl)
set_option maxRecDepth 200000 in
theorem g_X8_settle_J170 (N : Nat) (σ : Wd) : GO cX8_settle RX8 7 3 sc0 nI0 nJ0 some (f_X8_settle_J170 N σ) 170 (mkp 0 7 []) [] σ := by
  exact (by refine GO.to (md_X8_settle N) (kl := []) ((fun _ z => absurd z List.not_mem_nil)) 102 ?_ ?_ <;> rfl)
set_option maxRecDepth 200000 in
theorem g_X8_settle_J76 (N : Nat) (σ : Wd) : GO cX8_settle RX8 7 3 sc0 nI0 nJ0 some (f_X8_settle_J76 N σ) 76 (mkp 0 7 [(0, .ref 5), (1, .ref 4)]) [] σ := by
  exact (by refine GO.to (md_X8_settle N) (kl := [(80, fun vs st σ => kS0 st (kA 0 5 vs (kA 1 4 vs (kI 5 vs (fun x5 => f_X8_settle_L80 N (f_X8_settle_J170 N) N x5 σ)))))]) (List.forall_mem_cons.mpr ⟨fun vs st σ => go_kS0 (go_kA (fun h0 => go_kA (fun h1 => go_kI (fun x5 h5 => GO.pat [(0, .ref 5), (1, .ref 4), (5, .int x5)] ⟨h0, h1, h5, trivial⟩ (g_X8_settle_L80 N (f_X8_settle_J170 N) (g_X8_settle_J170 N) N x5 σ))))), (fun _ z => absurd z List.not_mem_nil)⟩) 102 ?_ ?_ <;> rfl)
set_option maxRecDepth 200000 in
theorem C_X8_settle (N : Nat) : CTV 3 yX8_settle cX8_settle 7 none (a_X8_settle N) := by
  refine CTV.of (own := RX8) (by decide) rfl (fun as σ r h => ?_)
  unfold a_X8_settle at h
  rcases kSE_s h with ⟨r0, rfl, h0⟩ | hn
  ·
    rcases kSE_s h0 with ⟨r1, rfl, h1⟩ | h0n
    ·
      obtain ⟨b2, r2, rfl, h2⟩ := kSI_s h1
      obtain ⟨b3, r3, rfl, h3⟩ := kSI_s h2
      obtain ⟨b4, r4, rfl, h4⟩ := kSI_s h3
      obtain ⟨rfl, h9⟩ := kS0_s h4
      exact ⟨Nat.le_of_ble_eq_true rfl, by refine GO.to (md_X8_settle N) (kl := [(30, fun vs st σ => kS0 st (kA 0 5 vs (kA 1 4 vs (kI 2 vs (fun x2 => kI 3 vs (fun x3 => kI 5 vs (fun x5 => f_X8_settle_L30 N (f_X8_settle_J76 N) N x2 x3 x5 σ)))))))]) (List.forall_mem_cons.mpr ⟨fun vs st σ => go_kS0 (go_kA (fun h0 => go_kA (fun h1 => go_kI (fun x2 h2 => go_kI (fun x3 h3 => go_kI (fun x5 h5 => GO.pat [(0, .ref 5), (1, .ref 4), (2, .int x2), (3, .int x3), (5, .int x5)] ⟨h0, h1, h2, h3, h5, trivial⟩ (g_X8_settle_L30 N (f_X8_settle_J76 N) (g_X8_settle_J76 N) N x2 x3 x5 σ))))))), (fun _ z => absurd z List.not_mem_nil)⟩) 102 ?_ ?_ <;> rfl⟩
    cases h0n
  cases hn
def T_X8_ofOutcome : List (Nat × Ent) := [(0, .iload_n 2, 1, []), (1, .ifCond .ge 11, 4, [12]), (4, .aload_n 0, 5, []), (5, .aload_n 1, 6, []), (6, .invokevirtual 60, 9, []), (9, .goto 13, 12, [22]), (12, .aload_n 0, 13, []), (13, .getfield 20, 16, []), (16, .aload_n 1, 17, []), (17, .iload_n 2, 18, []), (18, .invokevirtual 64, 21, []), (21, .iaload, 22, []), (22, .ireturn, 23, [])]
set_option maxRecDepth 200000 in
theorem tc_X8_ofOutcome : T_X8_ofOutcome.all (chk cX8_ofOutcome) = true := by decide +kernel
def f_X8_ofOutcome (N : Nat) (a2 : Int32) (σ : Wd) : Option (Int32 × Wd) :=
  if 0 ≤ a2 then ((f_X2_outcomeGate N a2 σ).bind fun p1 => (xld p1.2 32 512 p1.1).bind fun v2 => some (v2, p1.2)) else ((f_X8_lastOutcome N σ).bind fun p3 => some (p3.1, p3.2))
def a_X8_ofOutcome (N : Nat) : List Value → Wd → Option (Int32 × Wd) := fun as σ => kSE 5 as (fun r0 => kSE 4 r0 (fun r1 => kSI r1 (fun b2 r2 => kS0 r2 (f_X8_ofOutcome N b2 σ))) (none)) (none)
set_option maxRecDepth 200000 in
theorem k_X8_60 : calchk RX8 60 2 8 yX8_lastOutcome cX8_lastOutcome 4 (some .int) = true := by decide +kernel
def ct_X8_ofOutcome (N : Nat) : List (Nat × Cal) := [(64, 2, 2, .inl (a_X2_outcomeGate N)), (60, 2, 8, .inl (a_X8_lastOutcome N))]
set_option maxRecDepth 200000 in
theorem md_X8_ofOutcome (N : Nat) : MDOK T_X8_ofOutcome ft_X8 lt_X8 (ct_X8_ofOutcome N) cX8_ofOutcome RX8 3 := ⟨tc_X8_ofOutcome, fc_X8, lc_X8, List.forall_mem_cons.mpr ⟨Or.inl ⟨yX2_outcomeGate, cX2_outcomeGate, 2, (some .int), 1, k_X8_64, Nat.le_of_ble_eq_true rfl, C_X2_outcomeGate N⟩, List.forall_mem_cons.mpr ⟨Or.inl ⟨yX8_lastOutcome, cX8_lastOutcome, 4, (some .int), 2, k_X8_60, Nat.le_of_ble_eq_true rfl, C_X8_lastOutcome N⟩, (fun _ z => absurd z List.not_mem_nil)⟩⟩⟩
set_option maxRecDepth 200000 in
theorem C_X8_ofOutcome (N : Nat) : CTI 3 yX8_ofOutcome cX8_ofOutcome 3 (some .int) (a_X8_ofOutcome N) := by
  refine CTI.of (own := RX8) (by decide) rfl (fun as σ r h => ?_)
  unfold a_X8_ofOutcome at h
  rcases kSE_s h with ⟨r0, rfl, h0⟩ | hn
  ·
    rcases kSE_s h0 with ⟨r1, rfl, h1⟩ | h0n
    ·
      obtain ⟨b2, r2, rfl, h2⟩ := kSI_s h1
      obtain ⟨rfl, h9⟩ := kS0_s h2
      exact ⟨Nat.le_of_ble_eq_true rfl, by refine GO.to (md_X8_ofOutcome N) (kl := []) ((fun _ z => absurd z List.not_mem_nil)) 18 ?_ ?_ <;> rfl⟩
    cases h0n
  cases hn
def T_X8_unlikeTimes : List (Nat × Ent) := [(0, .iconst 0, 1, []), (1, .istore_n 2, 2, []), (2, .iconst 0, 3, []), (3, .istore_n 3, 4, []), (4, .iload_n 3, 5, []), (5, .aload_n 1, 6, []), (6, .getfield 47, 9, []), (9, .if_icmp .gt 49, 12, [58]), (12, .iconst 0, 13, []), (13, .istore 4, 15, []), (15, .iload 4, 17, []), (17, .iload_n 3, 18, []), (18, .if_icmp .ge 25, 21, [43]), (21, .aload_n 0, 22, []), (22, .aload_n 1, 23, []), (23, .iload 4, 25, []), (25, .invokevirtual 68, 28, []), (28, .aload_n 0, 29, []), (29, .aload_n 1, 30, []), (30, .iload_n 3, 31, []), (31, .invokevirtual 68, 34, []), (34, .if_icmp .eq 9, 37, [43]), (37, .iinc 4 1, 40, []), (40, .goto (-25), 43, [15]), (43, .iload 4, 45, []), (45, .iload_n 3, 46, []), (46, .if_icmp .ne 6, 49, [52]), (49, .iinc 2 1, 52, []), (52, .iinc 3 1, 55, []), (55, .goto (-51), 58, [4]), (58, .iload_n 2, 59, []), (59, .ireturn, 60, [])]
set_option maxRecDepth 200000 in
theorem tc_X8_unlikeTimes : T_X8_unlikeTimes.all (chk cX8_unlikeTimes) = true := by decide +kernel
def f_X8_unlikeTimes_L15 (N : Nat) (KO43 : Int32 → Int32 → Int32 → Wd → Option (Int32 × Wd)) : Nat → Int32 → Int32 → Int32 → Wd → Option (Int32 × Wd)
  | 0, _, _, _, _ => none
  | n + 1, x2, x3, x4, σ => if x3 ≤ x4 then (KO43 x2 x3 x4 σ) else ((f_X8_ofOutcome N x4 σ).bind fun p1 => (f_X8_ofOutcome N x3 p1.2).bind fun p2 => if p1.1 = p2.1 then (KO43 x2 x3 x4 p2.2) else (f_X8_unlikeTimes_L15 N KO43 n x2 x3 (x4 + 1) p2.2))
def f_X8_unlikeTimes_J43 (N : Nat) (KB : Int32 → Int32 → Wd → Option (Int32 × Wd)) (KO58 : Int32 → Wd → Option (Int32 × Wd)) (x2 : Int32) (x3 : Int32) (x4 : Int32) (σ : Wd) : Option (Int32 × Wd) :=
  if x4 = x3 then (KB (x2 + 1) (x3 + 1) σ) else (KB x2 (x3 + 1) σ)
def f_X8_unlikeTimes_L4 (N : Nat) (KO58 : Int32 → Wd → Option (Int32 × Wd)) : Nat → Int32 → Int32 → Wd → Option (Int32 × Wd)
  | 0, _, _, _ => none
  | n + 1, x2, x3, σ => if (σ.1 4 6) < x3 then (KO58 x2 σ) else (f_X8_unlikeTimes_L15 N (f_X8_unlikeTimes_J43 N (f_X8_unlikeTimes_L4 N KO58 n) KO58) N x2 x3 0 σ)
def f_X8_unlikeTimes_J58 (N : Nat) (x2 : Int32) (σ : Wd) : Option (Int32 × Wd) :=
  some (x2, σ)
def f_X8_unlikeTimes (N : Nat) (σ : Wd) : Option (Int32 × Wd) :=
  f_X8_unlikeTimes_L4 N (f_X8_unlikeTimes_J58 N) N 0 0 σ
def a_X8_unlikeTimes (N : Nat) : List Value → Wd → Option (Int32 × Wd) := fun as σ => kSE 5 as (fun r0 => kSE 4 r0 (fun r1 => kS0 r1 (f_X8_unlikeTimes N σ)) (none)) (none)
set_option maxRecDepth 200000 in
theorem k_X8_68 : calchk RX8 68 3 8 yX8_ofOutcome cX8_ofOutcome 3 (some .int) = true := by decide +kernel
def ct_X8_unlikeTimes (N : Nat) : List (Nat × Cal) := [(68, 3, 8, .inl (a_X8_ofOutcome N))]
set_option maxRecDepth 200000 in
theorem md_X8_unlikeTimes (N : Nat) : MDOK T_X8_unlikeTimes ft_X8 lt_X8 (ct_X8_unlikeTimes N) cX8_unlikeTimes RX8 4 := ⟨tc_X8_unlikeTimes, fc_X8, lc_X8, List.forall_mem_cons.mpr ⟨Or.inl ⟨yX8_ofOutcome, cX8_ofOutcome, 3, (some .int), 3, k_X8_68, Nat.le_of_ble_eq_true rfl, C_X8_ofOutcome N⟩, (fun _ z => absurd z List.not_mem_nil)⟩⟩
set_option maxRecDepth 200000 in
theorem g_X8_unlikeTimes_L15 (N : Nat) (KO43 : Int32 → Int32 → Int32 → Wd → Option (Int32 × Wd)) (hKO43 : ∀ (x2 : Int32) (x3 : Int32) (x4 : Int32) (σ : Wd), GO cX8_unlikeTimes RX8 5 4 sc0 rI nJ0 nV0 (KO43 x2 x3 x4 σ) 43 (mkp 0 5 [(0, .ref 5), (1, .ref 4), (2, .int x2), (3, .int x3), (4, .int x4)]) [] σ) : ∀ (n : Nat), ∀ (x2 : Int32) (x3 : Int32) (x4 : Int32) (σ : Wd), GO cX8_unlikeTimes RX8 5 4 sc0 rI nJ0 nV0 (f_X8_unlikeTimes_L15 N KO43 n x2 x3 x4 σ) 15 (mkp 0 5 [(0, .ref 5), (1, .ref 4), (2, .int x2), (3, .int x3), (4, .int x4)]) [] σ
  | 0, x2, x3, x4, σ => GO.none
  | n + 1, x2, x3, x4, σ => by
    exact (by refine GO.to (md_X8_unlikeTimes N) (kl := [(43, fun vs st σ => kS0 st (kA 0 5 vs (kA 1 4 vs (kI 2 vs (fun x2 => kI 3 vs (fun x3 => kI 4 vs (fun x4 => KO43 x2 x3 x4 σ))))))), (15, fun vs st σ => kS0 st (kA 0 5 vs (kA 1 4 vs (kI 2 vs (fun x2 => kI 3 vs (fun x3 => kI 4 vs (fun x4 => f_X8_unlikeTimes_L15 N KO43 n x2 x3 x4 σ)))))))]) (List.forall_mem_cons.mpr ⟨fun vs st σ => go_kS0 (go_kA (fun h0 => go_kA (fun h1 => go_kI (fun x2 h2 => go_kI (fun x3 h3 => go_kI (fun x4 h4 => GO.pat [(0, .ref 5), (1, .ref 4), (2, .int x2), (3, .int x3), (4, .int x4)] ⟨h0, h1, h2, h3, h4, trivial⟩ (hKO43 x2 x3 x4 σ))))))), List.forall_mem_cons.mpr ⟨fun vs st σ => go_kS0 (go_kA (fun h0 => go_kA (fun h1 => go_kI (fun x2 h2 => go_kI (fun x3 h3 => go_kI (fun x4 h4 => GO.pat [(0, .ref 5), (1, .ref 4), (2, .int x2), (3, .int x3), (4, .int x4)] ⟨h0, h1, h2, h3, h4, trivial⟩ (g_X8_unlikeTimes_L15 N KO43 hKO43 n x2 x3 x4 σ))))))), (fun _ z => absurd z List.not_mem_nil)⟩⟩) 37 ?_ ?_ <;> rfl)
set_option maxRecDepth 200000 in
theorem g_X8_unlikeTimes_J43 (N : Nat) (KB : Int32 → Int32 → Wd → Option (Int32 × Wd)) (hKB : ∀ (x2 : Int32) (x3 : Int32) (σ : Wd), GO cX8_unlikeTimes RX8 5 4 sc0 rI nJ0 nV0 (KB x2 x3 σ) 4 (mkp 0 5 [(0, .ref 5), (1, .ref 4), (2, .int x2), (3, .int x3)]) [] σ) (KO58 : Int32 → Wd → Option (Int32 × Wd)) (hKO58 : ∀ (x2 : Int32) (σ : Wd), GO cX8_unlikeTimes RX8 5 4 sc0 rI nJ0 nV0 (KO58 x2 σ) 58 (mkp 0 5 [(2, .int x2)]) [] σ) (x2 : Int32) (x3 : Int32) (x4 : Int32) (σ : Wd) : GO cX8_unlikeTimes RX8 5 4 sc0 rI nJ0 nV0 (f_X8_unlikeTimes_J43 N KB KO58 x2 x3 x4 σ) 43 (mkp 0 5 [(0, .ref 5), (1, .ref 4), (2, .int x2), (3, .int x3), (4, .int x4)]) [] σ := by
  exact (by refine GO.to (md_X8_unlikeTimes N) (kl := [(4, fun vs st σ => kS0 st (kA 0 5 vs (kA 1 4 vs (kI 2 vs (fun x2 => kI 3 vs (fun x3 => KB x2 x3 σ))))))]) (List.forall_mem_cons.mpr ⟨fun vs st σ => go_kS0 (go_kA (fun h0 => go_kA (fun h1 => go_kI (fun x2 h2 => go_kI (fun x3 h3 => GO.pat [(0, .ref 5), (1, .ref 4), (2, .int x2), (3, .int x3)] ⟨h0, h1, h2, h3, trivial⟩ (hKB x2 x3 σ)))))), (fun _ z => absurd z List.not_mem_nil)⟩) 37 ?_ ?_ <;> rfl)
set_option maxRecDepth 200000 in
theorem g_X8_unlikeTimes_L4 (N : Nat) (KO58 : Int32 → Wd → Option (Int32 × Wd)) (hKO58 : ∀ (x2 : Int32) (σ : Wd), GO cX8_unlikeTimes RX8 5 4 sc0 rI nJ0 nV0 (KO58 x2 σ) 58 (mkp 0 5 [(2, .int x2)]) [] σ) : ∀ (n : Nat), ∀ (x2 : Int32) (x3 : Int32) (σ : Wd), GO cX8_unlikeTimes RX8 5 4 sc0 rI nJ0 nV0 (f_X8_unlikeTimes_L4 N KO58 n x2 x3 σ) 4 (mkp 0 5 [(0, .ref 5), (1, .ref 4), (2, .int x2), (3, .int x3)]) [] σ
  | 0, x2, x3, σ => GO.none
  | n + 1, x2, x3, σ => by
    exact (by refine GO.to (md_X8_unlikeTimes N) (kl := [(58, fun vs st σ => kS0 st (kI 2 vs (fun x2 => KO58 x2 σ))), (15, fun vs st σ => kS0 st (kA 0 5 vs (kA 1 4 vs (kI 2 vs (fun x2 => kI 3 vs (fun x3 => kI 4 vs (fun x4 => f_X8_unlikeTimes_L15 N (f_X8_unlikeTimes_J43 N (f_X8_unlikeTimes_L4 N KO58 n) KO58) N x2 x3 x4 σ)))))))]) (List.forall_mem_cons.mpr ⟨fun vs st σ => go_kS0 (go_kI (fun x2 h2 => GO.pat [(2, .int x2)] ⟨h2, trivial⟩ (hKO58 x2 σ))), List.forall_mem_cons.mpr ⟨fun vs st σ => go_kS0 (go_kA (fun h0 => go_kA (fun h1 => go_kI (fun x2 h2 => go_kI (fun x3 h3 => go_kI (fun x4 h4 => GO.pat [(0, .ref 5), (1, .ref 4), (2, .int x2), (3, .int x3), (4, .int x4)] ⟨h0, h1, h2, h3, h4, trivial⟩ (g_X8_unlikeTimes_L15 N (f_X8_unlikeTimes_J43 N (f_X8_unlikeTimes_L4 N KO58 n) KO58) (g_X8_unlikeTimes_J43 N (f_X8_unlikeTimes_L4 N KO58 n) (g_X8_unlikeTimes_L4 N KO58 hKO58 n) KO58 hKO58) N x2 x3 x4 σ))))))), (fun _ z => absurd z List.not_mem_nil)⟩⟩) 37 ?_ ?_ <;> rfl)
set_option maxRecDepth 200000 in
theorem g_X8_unlikeTimes_J58 (N : Nat) (x2 : Int32) (σ : Wd) : GO cX8_unlikeTimes RX8 5 4 sc0 rI nJ0 nV0 (f_X8_unlikeTimes_J58 N x2 σ) 58 (mkp 0 5 [(2, .int x2)]) [] σ := by
  exact (by refine GO.to (md_X8_unlikeTimes N) (kl := []) ((fun _ z => absurd z List.not_mem_nil)) 37 ?_ ?_ <;> rfl)
set_option maxRecDepth 200000 in
theorem C_X8_unlikeTimes (N : Nat) : CTI 4 yX8_unlikeTimes cX8_unlikeTimes 5 (some .int) (a_X8_unlikeTimes N) := by
  refine CTI.of (own := RX8) (by decide) rfl (fun as σ r h => ?_)
  unfold a_X8_unlikeTimes at h
  rcases kSE_s h with ⟨r0, rfl, h0⟩ | hn
  ·
    rcases kSE_s h0 with ⟨r1, rfl, h1⟩ | h0n
    ·
      obtain ⟨rfl, h9⟩ := kS0_s h1
      exact ⟨Nat.le_of_ble_eq_true rfl, by refine GO.to (md_X8_unlikeTimes N) (kl := [(4, fun vs st σ => kS0 st (kA 0 5 vs (kA 1 4 vs (kI 2 vs (fun x2 => kI 3 vs (fun x3 => f_X8_unlikeTimes_L4 N (f_X8_unlikeTimes_J58 N) N x2 x3 σ))))))]) (List.forall_mem_cons.mpr ⟨fun vs st σ => go_kS0 (go_kA (fun h0 => go_kA (fun h1 => go_kI (fun x2 h2 => go_kI (fun x3 h3 => GO.pat [(0, .ref 5), (1, .ref 4), (2, .int x2), (3, .int x3)] ⟨h0, h1, h2, h3, trivial⟩ (g_X8_unlikeTimes_L4 N (f_X8_unlikeTimes_J58 N) (g_X8_unlikeTimes_J58 N) N x2 x3 σ)))))), (fun _ z => absurd z List.not_mem_nil)⟩) 37 ?_ ?_ <;> rfl⟩
    cases h0n
  cases hn
def T_X8_markHanging : List (Nat × Ent) := [(0, .iconst 0, 1, []), (1, .istore_n 2, 2, []), (2, .iload_n 2, 3, []), (3, .aload_n 1, 4, []), (4, .getfield 36, 7, []), (7, .if_icmp .ge 16, 10, [23]), (10, .aload_n 0, 11, []), (11, .getfield 26, 14, []), (14, .iload_n 2, 15, []), (15, .iconst 0, 16, []), (16, .bastore, 17, []), (17, .iinc 2 1, 20, []), (20, .goto (-18), 23, [2]), (23, .aload_n 0, 24, []), (24, .aload_n 1, 25, []), (25, .invokevirtual 60, 28, []), (28, .istore_n 2, 29, []), (29, .iconst 0, 30, []), (30, .istore_n 3, 31, []), (31, .iload_n 3, 32, []), (32, .aload_n 1, 33, []), (33, .getfield 47, 36, []), (36, .if_icmp .gt 30, 39, [66]), (39, .aload_n 0, 40, []), (40, .aload_n 1, 41, []), (41, .iload_n 3, 42, []), (42, .invokevirtual 68, 45, []), (45, .iload_n 2, 46, []), (46, .if_icmp .ne 14, 49, [60]), (49, .aload_n 0, 50, []), (50, .getfield 26, 53, []), (53, .aload_n 1, 54, []), (54, .iload_n 3, 55, []), (55, .invokevirtual 64, 58, []), (58, .iconst 1, 59, []), (59, .bastore, 60, []), (60, .iinc 3 1, 63, []), (63, .goto (-32), 66, [31]), (66, .aload_n 1, 67, []), (67, .getfield 36, 70, []), (70, .iconst 1, 71, []), (71, .isub, 72, []), (72, .istore_n 3, 73, []), (73, .iload_n 3, 74, []), (74, .bipush 27, 76, []), (76, .if_icmp .lt 81, 79, [157]), (79, .aload_n 0, 80, []), (80, .getfield 26, 83, []), (83, .iload_n 3, 84, []), (84, .baload, 85, []), (85, .ifCond .eq 30, 88, [115]), (88, .aload_n 0, 89, []), (89, .aload_n 1, 90, []), (90, .iload_n 3, 91, []), (91, .aload_n 1, 92, []), (92, .getfield 71, 95, []), (95, .iload_n 3, 96, []), (96, .iaload, 97, []), (97, .invokevirtual 74, 100, []), (100, .ifCond .eq 15, 103, [115]), (103, .aload_n 0, 104, []), (104, .getfield 26, 107, []), (107, .aload_n 1, 108, []), (108, .getfield 71, 111, []), (111, .iload_n 3, 112, []), (112, .iaload, 113, []), (113, .iconst 1, 114, []), (114, .bastore, 115, []), (115, .aload_n 0, 116, []), (116, .getfield 26, 119, []), (119, .iload_n 3, 120, []), (120, .baload, 121, []), (121, .ifCond .eq 30, 124, [151]), (124, .aload_n 0, 125, []), (125, .aload_n 1, 126, []), (126, .iload_n 3, 127, []), (127, .aload_n 1, 128, []), (128, .getfield 78, 131, []), (131, .iload_n 3, 132, []), (132, .iaload, 133, []), (133, .invokevirtual 74, 136, []), (136, .ifCond .eq 15, 139, [151]), (139, .aload_n 0, 140, []), (140, .getfield 26, 143, []), (143, .aload_n 1, 144, []), (144, .getfield 78, 147, []), (147, .iload_n 3, 148, []), (148, .iaload, 149, []), (149, .iconst 1, 150, []), (150, .bastore, 151, []), (151, .iinc 3 (-1), 154, []), (154, .goto (-81), 157, [73]), (157, .return_, 158, [])]
set_option maxRecDepth 200000 in
theorem tc_X8_markHanging : T_X8_markHanging.all (chk cX8_markHanging) = true := by decide +kernel
def f_X8_markHanging_L2 (N : Nat) (KO23 : Wd → Option Wd) : Nat → Int32 → Wd → Option Wd
  | 0, _, _ => none
  | n + 1, x2, σ => if (σ.1 4 5) ≤ x2 then (KO23 σ) else ((xstZ σ 34 512 x2 0).bind fun σ1 => f_X8_markHanging_L2 N KO23 n (x2 + 1) σ1)
def f_X8_markHanging_L31 (N : Nat) (KO66 : Wd → Option Wd) : Nat → Int32 → Int32 → Wd → Option Wd
  | 0, _, _, _ => none
  | n + 1, x2, x3, σ => if (σ.1 4 6) < x3 then (KO66 σ) else ((f_X8_ofOutcome N x3 σ).bind fun p3 => if p3.1 = x2 then ((f_X2_outcomeGate N x3 p3.2).bind fun p4 => (xstZ p4.2 34 512 p4.1 1).bind fun σ5 => f_X8_markHanging_L31 N KO66 n x2 (x3 + 1) σ5) else (f_X8_markHanging_L31 N KO66 n x2 (x3 + 1) p3.2))
def f_X8_markHanging_J115 (N : Nat) (KB : Int32 → Wd → Option Wd) (KO157 : Wd → Option Wd) (x3 : Int32) (σ : Wd) : Option Wd :=
  (xld σ 34 512 x3).bind fun v7 => if v7 = 0 then (KB (x3 + (-1)) σ) else ((xld σ 20 512 x3).bind fun v8 => (f_X8_isHeldUpBy N x3 v8 σ).bind fun p9 => if p9.1 = 0 then (KB (x3 + (-1)) p9.2) else ((xld p9.2 20 512 x3).bind fun v10 => (xstZ p9.2 34 512 v10 1).bind fun σ11 => KB (x3 + (-1)) σ11))
def f_X8_markHanging_L73 (N : Nat) (KO157 : Wd → Option Wd) : Nat → Int32 → Wd → Option Wd
  | 0, _, _ => none
  | n + 1, x3, σ => if x3 < 27 then (KO157 σ) else ((xld σ 34 512 x3).bind fun v6 => if v6 = 0 then (f_X8_markHanging_J115 N (f_X8_markHanging_L73 N KO157 n) KO157 x3 σ) else ((xld σ 19 512 x3).bind fun v12 => (f_X8_isHeldUpBy N x3 v12 σ).bind fun p13 => if p13.1 = 0 then (f_X8_markHanging_J115 N (f_X8_markHanging_L73 N KO157 n) KO157 x3 p13.2) else ((xld p13.2 19 512 x3).bind fun v14 => (xstZ p13.2 34 512 v14 1).bind fun σ15 => f_X8_markHanging_J115 N (f_X8_markHanging_L73 N KO157 n) KO157 x3 σ15)))
def f_X8_markHanging_J157 (N : Nat) (σ : Wd) : Option Wd :=
  some σ
def f_X8_markHanging_J66 (N : Nat) (σ : Wd) : Option Wd :=
  f_X8_markHanging_L73 N (f_X8_markHanging_J157 N) N ((σ.1 4 5) - 1) σ
def f_X8_markHanging_J23 (N : Nat) (σ : Wd) : Option Wd :=
  (f_X8_lastOutcome N σ).bind fun p2 => f_X8_markHanging_L31 N (f_X8_markHanging_J66 N) N p2.1 0 p2.2
def f_X8_markHanging (N : Nat) (σ : Wd) : Option Wd :=
  f_X8_markHanging_L2 N (f_X8_markHanging_J23 N) N 0 σ
def a_X8_markHanging (N : Nat) : List Value → Wd → Option Wd := fun as σ => kSE 5 as (fun r0 => kSE 4 r0 (fun r1 => kS0 r1 (f_X8_markHanging N σ)) (none)) (none)
def ct_X8_markHanging (N : Nat) : List (Nat × Cal) := [(60, 2, 8, .inl (a_X8_lastOutcome N)), (68, 3, 8, .inl (a_X8_ofOutcome N)), (64, 2, 2, .inl (a_X2_outcomeGate N)), (74, 4, 8, .inl (a_X8_isHeldUpBy N))]
set_option maxRecDepth 200000 in
theorem md_X8_markHanging (N : Nat) : MDOK T_X8_markHanging ft_X8 lt_X8 (ct_X8_markHanging N) cX8_markHanging RX8 4 := ⟨tc_X8_markHanging, fc_X8, lc_X8, List.forall_mem_cons.mpr ⟨Or.inl ⟨yX8_lastOutcome, cX8_lastOutcome, 4, (some .int), 2, k_X8_60, Nat.le_of_ble_eq_true rfl, C_X8_lastOutcome N⟩, List.forall_mem_cons.mpr ⟨Or.inl ⟨yX8_ofOutcome, cX8_ofOutcome, 3, (some .int), 3, k_X8_68, Nat.le_of_ble_eq_true rfl, C_X8_ofOutcome N⟩, List.forall_mem_cons.mpr ⟨Or.inl ⟨yX2_outcomeGate, cX2_outcomeGate, 2, (some .int), 1, k_X8_64, Nat.le_of_ble_eq_true rfl, C_X2_outcomeGate N⟩, List.forall_mem_cons.mpr ⟨Or.inl ⟨yX8_isHeldUpBy, cX8_isHeldUpBy, 4, (some .boolean), 1, k_X8_74, Nat.le_of_ble_eq_true rfl, C_X8_isHeldUpBy N⟩, (fun _ z => absurd z List.not_mem_nil)⟩⟩⟩⟩⟩
set_option maxRecDepth 200000 in
theorem g_X8_markHanging_L2 (N : Nat) (KO23 : Wd → Option Wd) (hKO23 : ∀ (σ : Wd), GO cX8_markHanging RX8 4 4 sc0 nI0 nJ0 some (KO23 σ) 23 (mkp 0 4 [(0, .ref 5), (1, .ref 4)]) [] σ) : ∀ (n : Nat), ∀ (x2 : Int32) (σ : Wd), GO cX8_markHanging RX8 4 4 sc0 nI0 nJ0 some (f_X8_markHanging_L2 N KO23 n x2 σ) 2 (mkp 0 4 [(0, .ref 5), (1, .ref 4), (2, .int x2)]) [] σ
  | 0, x2, σ => GO.none
  | n + 1, x2, σ => by
    exact (by refine GO.to (md_X8_markHanging N) (kl := [(23, fun vs st σ => kS0 st (kA 0 5 vs (kA 1 4 vs (KO23 σ)))), (2, fun vs st σ => kS0 st (kA 0 5 vs (kA 1 4 vs (kI 2 vs (fun x2 => f_X8_markHanging_L2 N KO23 n x2 σ)))))]) (List.forall_mem_cons.mpr ⟨fun vs st σ => go_kS0 (go_kA (fun h0 => go_kA (fun h1 => GO.pat [(0, .ref 5), (1, .ref 4)] ⟨h0, h1, trivial⟩ (hKO23 σ)))), List.forall_mem_cons.mpr ⟨fun vs st σ => go_kS0 (go_kA (fun h0 => go_kA (fun h1 => go_kI (fun x2 h2 => GO.pat [(0, .ref 5), (1, .ref 4), (2, .int x2)] ⟨h0, h1, h2, trivial⟩ (g_X8_markHanging_L2 N KO23 hKO23 n x2 σ))))), (fun _ z => absurd z List.not_mem_nil)⟩⟩) 98 ?_ ?_ <;> rfl)
set_option maxRecDepth 200000 in
theorem g_X8_markHanging_L31 (N : Nat) (KO66 : Wd → Option Wd) (hKO66 : ∀ (σ : Wd), GO cX8_markHanging RX8 4 4 sc0 nI0 nJ0 some (KO66 σ) 66 (mkp 0 4 [(0, .ref 5), (1, .ref 4)]) [] σ) : ∀ (n : Nat), ∀ (x2 : Int32) (x3 : Int32) (σ : Wd), GO cX8_markHanging RX8 4 4 sc0 nI0 nJ0 some (f_X8_markHanging_L31 N KO66 n x2 x3 σ) 31 (mkp 0 4 [(0, .ref 5), (1, .ref 4), (2, .int x2), (3, .int x3)]) [] σ
  | 0, x2, x3, σ => GO.none
  | n + 1, x2, x3, σ => by
    exact (by refine GO.to (md_X8_markHanging N) (kl := [(66, fun vs st σ => kS0 st (kA 0 5 vs (kA 1 4 vs (KO66 σ)))), (31, fun vs st σ => kS0 st (kA 0 5 vs (kA 1 4 vs (kI 2 vs (fun x2 => kI 3 vs (fun x3 => f_X8_markHanging_L31 N KO66 n x2 x3 σ))))))]) (List.forall_mem_cons.mpr ⟨fun vs st σ => go_kS0 (go_kA (fun h0 => go_kA (fun h1 => GO.pat [(0, .ref 5), (1, .ref 4)] ⟨h0, h1, trivial⟩ (hKO66 σ)))), List.forall_mem_cons.mpr ⟨fun vs st σ => go_kS0 (go_kA (fun h0 => go_kA (fun h1 => go_kI (fun x2 h2 => go_kI (fun x3 h3 => GO.pat [(0, .ref 5), (1, .ref 4), (2, .int x2), (3, .int x3)] ⟨h0, h1, h2, h3, trivial⟩ (g_X8_markHanging_L31 N KO66 hKO66 n x2 x3 σ)))))), (fun _ z => absurd z List.not_mem_nil)⟩⟩) 98 ?_ ?_ <;> rfl)
set_option maxRecDepth 200000 in
theorem g_X8_markHanging_J115 (N : Nat) (KB : Int32 → Wd → Option Wd) (hKB : ∀ (x3 : Int32) (σ : Wd), GO cX8_markHanging RX8 4 4 sc0 nI0 nJ0 some (KB x3 σ) 73 (mkp 0 4 [(0, .ref 5), (1, .ref 4), (3, .int x3)]) [] σ) (KO157 : Wd → Option Wd) (hKO157 : ∀ (σ : Wd), GO cX8_markHanging RX8 4 4 sc0 nI0 nJ0 some (KO157 σ) 157 (mkp 0 4 []) [] σ) (x3 : Int32) (σ : Wd) : GO cX8_markHanging RX8 4 4 sc0 nI0 nJ0 some (f_X8_markHanging_J115 N KB KO157 x3 σ) 115 (mkp 0 4 [(0, .ref 5), (1, .ref 4), (3, .int x3)]) [] σ := by
  exact (by refine GO.to (md_X8_markHanging N) (kl := [(73, fun vs st σ => kS0 st (kA 0 5 vs (kA 1 4 vs (kI 3 vs (fun x3 => KB x3 σ)))))]) (List.forall_mem_cons.mpr ⟨fun vs st σ => go_kS0 (go_kA (fun h0 => go_kA (fun h1 => go_kI (fun x3 h3 => GO.pat [(0, .ref 5), (1, .ref 4), (3, .int x3)] ⟨h0, h1, h3, trivial⟩ (hKB x3 σ))))), (fun _ z => absurd z List.not_mem_nil)⟩) 98 ?_ ?_ <;> rfl)
set_option maxRecDepth 200000 in
theorem g_X8_markHanging_L73 (N : Nat) (KO157 : Wd → Option Wd) (hKO157 : ∀ (σ : Wd), GO cX8_markHanging RX8 4 4 sc0 nI0 nJ0 some (KO157 σ) 157 (mkp 0 4 []) [] σ) : ∀ (n : Nat), ∀ (x3 : Int32) (σ : Wd), GO cX8_markHanging RX8 4 4 sc0 nI0 nJ0 some (f_X8_markHanging_L73 N KO157 n x3 σ) 73 (mkp 0 4 [(0, .ref 5), (1, .ref 4), (3, .int x3)]) [] σ
  | 0, x3, σ => GO.none
  | n + 1, x3, σ => by
    exact (by refine GO.to (md_X8_markHanging N) (kl := [(157, fun vs st σ => kS0 st (KO157 σ)), (115, fun vs st σ => kS0 st (kA 0 5 vs (kA 1 4 vs (kI 3 vs (fun x3 => f_X8_markHanging_J115 N (f_X8_markHanging_L73 N KO157 n) KO157 x3 σ)))))]) (List.forall_mem_cons.mpr ⟨fun vs st σ => go_kS0 (GO.pat [] trivial (hKO157 σ)), List.forall_mem_cons.mpr ⟨fun vs st σ => go_kS0 (go_kA (fun h0 => go_kA (fun h1 => go_kI (fun x3 h3 => GO.pat [(0, .ref 5), (1, .ref 4), (3, .int x3)] ⟨h0, h1, h3, trivial⟩ (g_X8_markHanging_J115 N (f_X8_markHanging_L73 N KO157 n) (g_X8_markHanging_L73 N KO157 hKO157 n) KO157 hKO157 x3 σ))))), (fun _ z => absurd z List.not_mem_nil)⟩⟩) 98 ?_ ?_ <;> rfl)
set_option maxRecDepth 200000 in
theorem g_X8_markHanging_J157 (N : Nat) (σ : Wd) : GO cX8_markHanging RX8 4 4 sc0 nI0 nJ0 some (f_X8_markHanging_J157 N σ) 157 (mkp 0 4 []) [] σ := by
  exact (by refine GO.to (md_X8_markHanging N) (kl := []) ((fun _ z => absurd z List.not_mem_nil)) 98 ?_ ?_ <;> rfl)
set_option maxRecDepth 200000 in
theorem g_X8_markHanging_J66 (N : Nat) (σ : Wd) : GO cX8_markHanging RX8 4 4 sc0 nI0 nJ0 some (f_X8_markHanging_J66 N σ) 66 (mkp 0 4 [(0, .ref 5), (1, .ref 4)]) [] σ := by
  exact (by refine GO.to (md_X8_markHanging N) (kl := [(73, fun vs st σ => kS0 st (kA 0 5 vs (kA 1 4 vs (kI 3 vs (fun x3 => f_X8_markHanging_L73 N (f_X8_markHanging_J157 N) N x3 σ)))))]) (List.forall_mem_cons.mpr ⟨fun vs st σ => go_kS0 (go_kA (fun h0 => go_kA (fun h1 => go_kI (fun x3 h3 => GO.pat [(0, .ref 5), (1, .ref 4), (3, .int x3)] ⟨h0, h1, h3, trivial⟩ (g_X8_markHanging_L73 N (f_X8_markHanging_J157 N) (g_X8_markHanging_J157 N) N x3 σ))))), (fun _ z => absurd z List.not_mem_nil)⟩) 98 ?_ ?_ <;> rfl)
set_option maxRecDepth 200000 in
theorem g_X8_markHanging_J23 (N : Nat) (σ : Wd) : GO cX8_markHanging RX8 4 4 sc0 nI0 nJ0 some (f_X8_markHanging_J23 N σ) 23 (mkp 0 4 [(0, .ref 5), (1, .ref 4)]) [] σ := by
  exact (by refine GO.to (md_X8_markHanging N) (kl := [(31, fun vs st σ => kS0 st (kA 0 5 vs (kA 1 4 vs (kI 2 vs (fun x2 => kI 3 vs (fun x3 => f_X8_markHanging_L31 N (f_X8_markHanging_J66 N) N x2 x3 σ))))))]) (List.forall_mem_cons.mpr ⟨fun vs st σ => go_kS0 (go_kA (fun h0 => go_kA (fun h1 => go_kI (fun x2 h2 => go_kI (fun x3 h3 => GO.pat [(0, .ref 5), (1, .ref 4), (2, .int x2), (3, .int x3)] ⟨h0, h1, h2, h3, trivial⟩ (g_X8_markHanging_L31 N (f_X8_markHanging_J66 N) (g_X8_markHanging_J66 N) N x2 x3 σ)))))), (fun _ z => absurd z List.not_mem_nil)⟩) 98 ?_ ?_ <;> rfl)
set_option maxRecDepth 200000 in
theorem C_X8_markHanging (N : Nat) : CTV 4 yX8_markHanging cX8_markHanging 4 none (a_X8_markHanging N) := by
  refine CTV.of (own := RX8) (by decide) rfl (fun as σ r h => ?_)
  unfold a_X8_markHanging at h
  rcases kSE_s h with ⟨r0, rfl, h0⟩ | hn
  ·
    rcases kSE_s h0 with ⟨r1, rfl, h1⟩ | h0n
    ·
      obtain ⟨rfl, h9⟩ := kS0_s h1
      exact ⟨Nat.le_of_ble_eq_true rfl, by refine GO.to (md_X8_markHanging N) (kl := [(2, fun vs st σ => kS0 st (kA 0 5 vs (kA 1 4 vs (kI 2 vs (fun x2 => f_X8_markHanging_L2 N (f_X8_markHanging_J23 N) N x2 σ)))))]) (List.forall_mem_cons.mpr ⟨fun vs st σ => go_kS0 (go_kA (fun h0 => go_kA (fun h1 => go_kI (fun x2 h2 => GO.pat [(0, .ref 5), (1, .ref 4), (2, .int x2)] ⟨h0, h1, h2, trivial⟩ (g_X8_markHanging_L2 N (f_X8_markHanging_J23 N) (g_X8_markHanging_J23 N) N x2 σ))))), (fun _ z => absurd z List.not_mem_nil)⟩) 98 ?_ ?_ <;> rfl⟩
    cases h0n
  cases hn
def T_X8_deepest : List (Nat × Ent) := [(0, .iconst 0, 1, []), (1, .istore_n 2, 2, []), (2, .iload_n 2, 3, []), (3, .bipush 27, 5, []), (5, .if_icmp .ge 16, 8, [21]), (8, .aload_n 0, 9, []), (9, .getfield 30, 12, []), (12, .iload_n 2, 13, []), (13, .iconst 0, 14, []), (14, .iastore, 15, []), (15, .iinc 2 1, 18, []), (18, .goto (-16), 21, [2]), (21, .bipush 27, 23, []), (23, .istore_n 2, 24, []), (24, .iload_n 2, 25, []), (25, .aload_n 1, 26, []), (26, .getfield 36, 29, []), (29, .if_icmp .ge 44, 32, [73]), (32, .aload_n 0, 33, []), (33, .getfield 30, 36, []), (36, .iload_n 2, 37, []), (37, .iconst 1, 38, []), (38, .aload_n 0, 39, []), (39, .aload_n 1, 40, []), (40, .iload_n 2, 41, []), (41, .aload_n 1, 42, []), (42, .getfield 71, 45, []), (45, .iload_n 2, 46, []), (46, .iaload, 47, []), (47, .invokevirtual 81, 50, []), (50, .aload_n 0, 51, []), (51, .aload_n 1, 52, []), (52, .iload_n 2, 53, []), (53, .aload_n 1, 54, []), (54, .getfield 78, 57, []), (57, .iload_n 2, 58, []), (58, .iaload, 59, []), (59, .invokevirtual 81, 62, []), (62, .invokestatic 85, 65, []), (65, .iadd, 66, []), (66, .iastore, 67, []), (67, .iinc 2 1, 70, []), (70, .goto (-46), 73, [24]), (73, .aload_n 0, 74, []), (74, .aload_n 1, 75, []), (75, .invokevirtual 60, 78, []), (78, .istore_n 2, 79, []), (79, .iconst 0, 80, []), (80, .istore_n 3, 81, []), (81, .iconst 0, 82, []), (82, .istore 4, 84, []), (84, .iload 4, 86, []), (86, .aload_n 1, 87, []), (87, .getfield 47, 90, []), (90, .if_icmp .gt 36, 93, [126]), (93, .aload_n 0, 94, []), (94, .aload_n 1, 95, []), (95, .iload 4, 97, []), (97, .invokevirtual 68, 100, []), (100, .iload_n 2, 101, []), (101, .if_icmp .ne 19, 104, [120]), (104, .iload_n 3, 105, []), (105, .aload_n 0, 106, []), (106, .getfield 30, 109, []), (109, .aload_n 1, 110, []), (110, .iload 4, 112, []), (112, .invokevirtual 64, 115, []), (115, .iaload, 116, []), (116, .invokestatic 85, 119, []), (119, .istore_n 3, 120, []), (120, .iinc 4 1, 123, []), (123, .goto (-39), 126, [84]), (126, .iload_n 3, 127, []), (127, .ireturn, 128, [])]
set_option maxRecDepth 200000 in
theorem tc_X8_deepest : T_X8_deepest.all (chk cX8_deepest) = true := by decide +kernel
def f_X8_deepest_L2 (N : Nat) (KO21 : Wd → Option (Int32 × Wd)) : Nat → Int32 → Wd → Option (Int32 × Wd)
  | 0, _, _ => none
  | n + 1, x2, σ => if 27 ≤ x2 then (KO21 σ) else ((xst σ 35 512 x2 0).bind fun σ1 => f_X8_deepest_L2 N KO21 n (x2 + 1) σ1)
def f_X8_deepest_L24 (N : Nat) (KO73 : Wd → Option (Int32 × Wd)) : Nat → Int32 → Wd → Option (Int32 × Wd)
  | 0, _, _ => none
  | n + 1, x2, σ => if (σ.1 4 5) ≤ x2 then (KO73 σ) else ((xld σ 19 512 x2).bind fun v2 => (f_X8_depthBelow N x2 v2 σ).bind fun p3 => (xld p3.2 20 512 x2).bind fun v4 => (f_X8_depthBelow N x2 v4 p3.2).bind fun p5 => (f_J9_max_7cf53 N p3.1 p5.1 p5.2).bind fun p6 => (xst p6.2 35 512 x2 (1 + p6.1)).bind fun σ7 => f_X8_deepest_L24 N KO73 n (x2 + 1) σ7)
def f_X8_deepest_L84 (N : Nat) (KO126 : Int32 → Wd → Option (Int32 × Wd)) : Nat → Int32 → Int32 → Int32 → Wd → Option (Int32 × Wd)
  | 0, _, _, _, _ => none
  | n + 1, x2, x3, x4, σ => if (σ.1 4 6) < x4 then (KO126 x3 σ) else ((f_X8_ofOutcome N x4 σ).bind fun p9 => if p9.1 = x2 then ((f_X2_outcomeGate N x4 p9.2).bind fun p10 => (xld p10.2 35 512 p10.1).bind fun v11 => (f_J9_max_7cf53 N x3 v11 p10.2).bind fun p12 => f_X8_deepest_L84 N KO126 n x2 p12.1 (x4 + 1) p12.2) else (f_X8_deepest_L84 N KO126 n x2 x3 (x4 + 1) p9.2))
def f_X8_deepest_J126 (N : Nat) (x3 : Int32) (σ : Wd) : Option (Int32 × Wd) :=
  some (x3, σ)
def f_X8_deepest_J73 (N : Nat) (σ : Wd) : Option (Int32 × Wd) :=
  (f_X8_lastOutcome N σ).bind fun p8 => f_X8_deepest_L84 N (f_X8_deepest_J126 N) N p8.1 0 0 p8.2
def f_X8_deepest_J21 (N : Nat) (σ : Wd) : Option (Int32 × Wd) :=
  f_X8_deepest_L24 N (f_X8_deepest_J73 N) N 27 σ
def f_X8_deepest (N : Nat) (σ : Wd) : Option (Int32 × Wd) :=
  f_X8_deepest_L2 N (f_X8_deepest_J21 N) N 0 σ
def a_X8_deepest (N : Nat) : List Value → Wd → Option (Int32 × Wd) := fun as σ => kSE 5 as (fun r0 => kSE 4 r0 (fun r1 => kS0 r1 (f_X8_deepest N σ)) (none)) (none)
set_option maxRecDepth 200000 in
theorem k_X8_81 : calchk RX8 81 4 8 yX8_depthBelow cX8_depthBelow 4 (some .int) = true := by decide +kernel
def ct_X8_deepest (N : Nat) : List (Nat × Cal) := [(81, 4, 8, .inl (a_X8_depthBelow N)), (85, 2, 0, .inl amax), (60, 2, 8, .inl (a_X8_lastOutcome N)), (68, 3, 8, .inl (a_X8_ofOutcome N)), (64, 2, 2, .inl (a_X2_outcomeGate N))]
set_option maxRecDepth 200000 in
theorem md_X8_deepest (N : Nat) : MDOK T_X8_deepest ft_X8 lt_X8 (ct_X8_deepest N) cX8_deepest RX8 4 := ⟨tc_X8_deepest, fc_X8, lc_X8, List.forall_mem_cons.mpr ⟨Or.inl ⟨yX8_depthBelow, cX8_depthBelow, 4, (some .int), 2, k_X8_81, Nat.le_of_ble_eq_true rfl, C_X8_depthBelow N⟩, List.forall_mem_cons.mpr ⟨Or.inr (Or.inl ⟨rfl, k_X8_85, Nat.le_of_ble_eq_true rfl⟩), List.forall_mem_cons.mpr ⟨Or.inl ⟨yX8_lastOutcome, cX8_lastOutcome, 4, (some .int), 2, k_X8_60, Nat.le_of_ble_eq_true rfl, C_X8_lastOutcome N⟩, List.forall_mem_cons.mpr ⟨Or.inl ⟨yX8_ofOutcome, cX8_ofOutcome, 3, (some .int), 3, k_X8_68, Nat.le_of_ble_eq_true rfl, C_X8_ofOutcome N⟩, List.forall_mem_cons.mpr ⟨Or.inl ⟨yX2_outcomeGate, cX2_outcomeGate, 2, (some .int), 1, k_X8_64, Nat.le_of_ble_eq_true rfl, C_X2_outcomeGate N⟩, (fun _ z => absurd z List.not_mem_nil)⟩⟩⟩⟩⟩⟩
set_option maxRecDepth 200000 in
theorem g_X8_deepest_L2 (N : Nat) (KO21 : Wd → Option (Int32 × Wd)) (hKO21 : ∀ (σ : Wd), GO cX8_deepest RX8 5 4 sc0 rI nJ0 nV0 (KO21 σ) 21 (mkp 0 5 [(0, .ref 5), (1, .ref 4)]) [] σ) : ∀ (n : Nat), ∀ (x2 : Int32) (σ : Wd), GO cX8_deepest RX8 5 4 sc0 rI nJ0 nV0 (f_X8_deepest_L2 N KO21 n x2 σ) 2 (mkp 0 5 [(0, .ref 5), (1, .ref 4), (2, .int x2)]) [] σ
  | 0, x2, σ => GO.none
  | n + 1, x2, σ => by
    exact (by refine GO.to (md_X8_deepest N) (kl := [(21, fun vs st σ => kS0 st (kA 0 5 vs (kA 1 4 vs (KO21 σ)))), (2, fun vs st σ => kS0 st (kA 0 5 vs (kA 1 4 vs (kI 2 vs (fun x2 => f_X8_deepest_L2 N KO21 n x2 σ)))))]) (List.forall_mem_cons.mpr ⟨fun vs st σ => go_kS0 (go_kA (fun h0 => go_kA (fun h1 => GO.pat [(0, .ref 5), (1, .ref 4)] ⟨h0, h1, trivial⟩ (hKO21 σ)))), List.forall_mem_cons.mpr ⟨fun vs st σ => go_kS0 (go_kA (fun h0 => go_kA (fun h1 => go_kI (fun x2 h2 => GO.pat [(0, .ref 5), (1, .ref 4), (2, .int x2)] ⟨h0, h1, h2, trivial⟩ (g_X8_deepest_L2 N KO21 hKO21 n x2 σ))))), (fun _ z => absurd z List.not_mem_nil)⟩⟩) 79 ?_ ?_ <;> rfl)
set_option maxRecDepth 200000 in
theorem g_X8_deepest_L24 (N : Nat) (KO73 : Wd → Option (Int32 × Wd)) (hKO73 : ∀ (σ : Wd), GO cX8_deepest RX8 5 4 sc0 rI nJ0 nV0 (KO73 σ) 73 (mkp 0 5 [(0, .ref 5), (1, .ref 4)]) [] σ) : ∀ (n : Nat), ∀ (x2 : Int32) (σ : Wd), GO cX8_deepest RX8 5 4 sc0 rI nJ0 nV0 (f_X8_deepest_L24 N KO73 n x2 σ) 24 (mkp 0 5 [(0, .ref 5), (1, .ref 4), (2, .int x2)]) [] σ
  | 0, x2, σ => GO.none
  | n + 1, x2, σ => by
    exact (by refine GO.to (md_X8_deepest N) (kl := [(73, fun vs st σ => kS0 st (kA 0 5 vs (kA 1 4 vs (KO73 σ)))), (24, fun vs st σ => kS0 st (kA 0 5 vs (kA 1 4 vs (kI 2 vs (fun x2 => f_X8_deepest_L24 N KO73 n x2 σ)))))]) (List.forall_mem_cons.mpr ⟨fun vs st σ => go_kS0 (go_kA (fun h0 => go_kA (fun h1 => GO.pat [(0, .ref 5), (1, .ref 4)] ⟨h0, h1, trivial⟩ (hKO73 σ)))), List.forall_mem_cons.mpr ⟨fun vs st σ => go_kS0 (go_kA (fun h0 => go_kA (fun h1 => go_kI (fun x2 h2 => GO.pat [(0, .ref 5), (1, .ref 4), (2, .int x2)] ⟨h0, h1, h2, trivial⟩ (g_X8_deepest_L24 N KO73 hKO73 n x2 σ))))), (fun _ z => absurd z List.not_mem_nil)⟩⟩) 79 ?_ ?_ <;> rfl)
set_option maxRecDepth 200000 in
theorem g_X8_deepest_L84 (N : Nat) (KO126 : Int32 → Wd → Option (Int32 × Wd)) (hKO126 : ∀ (x3 : Int32) (σ : Wd), GO cX8_deepest RX8 5 4 sc0 rI nJ0 nV0 (KO126 x3 σ) 126 (mkp 0 5 [(3, .int x3)]) [] σ) : ∀ (n : Nat), ∀ (x2 : Int32) (x3 : Int32) (x4 : Int32) (σ : Wd), GO cX8_deepest RX8 5 4 sc0 rI nJ0 nV0 (f_X8_deepest_L84 N KO126 n x2 x3 x4 σ) 84 (mkp 0 5 [(0, .ref 5), (1, .ref 4), (2, .int x2), (3, .int x3), (4, .int x4)]) [] σ
  | 0, x2, x3, x4, σ => GO.none
  | n + 1, x2, x3, x4, σ => by
    exact (by refine GO.to (md_X8_deepest N) (kl := [(126, fun vs st σ => kS0 st (kI 3 vs (fun x3 => KO126 x3 σ))), (84, fun vs st σ => kS0 st (kA 0 5 vs (kA 1 4 vs (kI 2 vs (fun x2 => kI 3 vs (fun x3 => kI 4 vs (fun x4 => f_X8_deepest_L84 N KO126 n x2 x3 x4 σ)))))))]) (List.forall_mem_cons.mpr ⟨fun vs st σ => go_kS0 (go_kI (fun x3 h3 => GO.pat [(3, .int x3)] ⟨h3, trivial⟩ (hKO126 x3 σ))), List.forall_mem_cons.mpr ⟨fun vs st σ => go_kS0 (go_kA (fun h0 => go_kA (fun h1 => go_kI (fun x2 h2 => go_kI (fun x3 h3 => go_kI (fun x4 h4 => GO.pat [(0, .ref 5), (1, .ref 4), (2, .int x2), (3, .int x3), (4, .int x4)] ⟨h0, h1, h2, h3, h4, trivial⟩ (g_X8_deepest_L84 N KO126 hKO126 n x2 x3 x4 σ))))))), (fun _ z => absurd z List.not_mem_nil)⟩⟩) 79 ?_ ?_ <;> rfl)
set_option maxRecDepth 200000 in
theorem g_X8_deepest_J126 (N : Nat) (x3 : Int32) (σ : Wd) : GO cX8_deepest RX8 5 4 sc0 rI nJ0 nV0 (f_X8_deepest_J126 N x3 σ) 126 (mkp 0 5 [(3, .int x3)]) [] σ := by
  exact (by refine GO.to (md_X8_deepest N) (kl := []) ((fun _ z => absurd z List.not_mem_nil)) 79 ?_ ?_ <;> rfl)
set_option maxRecDepth 200000 in
theorem g_X8_deepest_J73 (N : Nat) (σ : Wd) : GO cX8_deepest RX8 5 4 sc0 rI nJ0 nV0 (f_X8_deepest_J73 N σ) 73 (mkp 0 5 [(0, .ref 5), (1, .ref 4)]) [] σ := by
  exact (by refine GO.to (md_X8_deepest N) (kl := [(84, fun vs st σ => kS0 st (kA 0 5 vs (kA 1 4 vs (kI 2 vs (fun x2 => kI 3 vs (fun x3 => kI 4 vs (fun x4 => f_X8_deepest_L84 N (f_X8_deepest_J126 N) N x2 x3 x4 σ)))))))]) (List.forall_mem_cons.mpr ⟨fun vs st σ => go_kS0 (go_kA (fun h0 => go_kA (fun h1 => go_kI (fun x2 h2 => go_kI (fun x3 h3 => go_kI (fun x4 h4 => GO.pat [(0, .ref 5), (1, .ref 4), (2, .int x2), (3, .int x3), (4, .int x4)] ⟨h0, h1, h2, h3, h4, trivial⟩ (g_X8_deepest_L84 N (f_X8_deepest_J126 N) (g_X8_deepest_J126 N) N x2 x3 x4 σ))))))), (fun _ z => absurd z List.not_mem_nil)⟩) 79 ?_ ?_ <;> rfl)
set_option maxRecDepth 200000 in
theorem g_X8_deepest_J21 (N : Nat) (σ : Wd) : GO cX8_deepest RX8 5 4 sc0 rI nJ0 nV0 (f_X8_deepest_J21 N σ) 21 (mkp 0 5 [(0, .ref 5), (1, .ref 4)]) [] σ := by
  exact (by refine GO.to (md_X8_deepest N) (kl := [(24, fun vs st σ => kS0 st (kA 0 5 vs (kA 1 4 vs (kI 2 vs (fun x2 => f_X8_deepest_L24 N (f_X8_deepest_J73 N) N x2 σ)))))]) (List.forall_mem_cons.mpr ⟨fun vs st σ => go_kS0 (go_kA (fun h0 => go_kA (fun h1 => go_kI (fun x2 h2 => GO.pat [(0, .ref 5), (1, .ref 4), (2, .int x2)] ⟨h0, h1, h2, trivial⟩ (g_X8_deepest_L24 N (f_X8_deepest_J73 N) (g_X8_deepest_J73 N) N x2 σ))))), (fun _ z => absurd z List.not_mem_nil)⟩) 79 ?_ ?_ <;> rfl)
set_option maxRecDepth 200000 in
theorem C_X8_deepest (N : Nat) : CTI 4 yX8_deepest cX8_deepest 5 (some .int) (a_X8_deepest N) := by
  refine CTI.of (own := RX8) (by decide) rfl (fun as σ r h => ?_)
  unfold a_X8_deepest at h
  rcases kSE_s h with ⟨r0, rfl, h0⟩ | hn
  ·
    rcases kSE_s h0 with ⟨r1, rfl, h1⟩ | h0n
    ·
      obtain ⟨rfl, h9⟩ := kS0_s h1
      exact ⟨Nat.le_of_ble_eq_true rfl, by refine GO.to (md_X8_deepest N) (kl := [(2, fun vs st σ => kS0 st (kA 0 5 vs (kA 1 4 vs (kI 2 vs (fun x2 => f_X8_deepest_L2 N (f_X8_deepest_J21 N) N x2 σ)))))]) (List.forall_mem_cons.mpr ⟨fun vs st σ => go_kS0 (go_kA (fun h0 => go_kA (fun h1 => go_kI (fun x2 h2 => GO.pat [(0, .ref 5), (1, .ref 4), (2, .int x2)] ⟨h0, h1, h2, trivial⟩ (g_X8_deepest_L2 N (f_X8_deepest_J21 N) (g_X8_deepest_J21 N) N x2 σ))))), (fun _ z => absurd z List.not_mem_nil)⟩) 79 ?_ ?_ <;> rfl⟩
    cases h0n
  cases hn
def ft_X6 : List (Nat × FTE) := [(11, 5, 1, 3), (15, 5, 0, 2), (19, 5, 2, 1), (32, 1, 6, 0), (42, 5, 3, 0)]
def lt_X6 : List (Nat × Int64) := []
theorem fc_X6 : ft_X6.all (fun e => fldchk RX6 e && shchk e) = true := by decide +kernel
theorem lc_X6 : lt_X6.all (ltchk RX6) = true := by decide +kernel
def T_X6_amount : List (Nat × Ent) := [(0, .iconst 2, 1, []), (1, .iconst 2, 2, []), (2, .aload_n 0, 3, []), (3, .getfield 42, 6, []), (6, .imul, 7, []), (7, .ishl, 8, []), (8, .ireturn, 9, [])]
set_option maxRecDepth 200000 in
theorem tc_X6_amount : T_X6_amount.all (chk cX6_amount) = true := by decide +kernel
def f_X6_amount (N : Nat) (σ : Wd) : Option (Int32 × Wd) :=
  some (2 <<< ((2 * (σ.1 6 3)) &&& 31), σ)
def a_X6_amount (N : Nat) : List Value → Wd → Option (Int32 × Wd) := fun as σ => kSE 6 as (fun r0 => kS0 r0 (f_X6_amount N σ)) (none)
def ct_X6_amount (N : Nat) : List (Nat × Cal) := []
set_option maxRecDepth 200000 in
theorem md_X6_amount (N : Nat) : MDOK T_X6_amount ft_X6 lt_X6 (ct_X6_amount N) cX6_amount RX6 1 := ⟨tc_X6_amount, fc_X6, lc_X6, (fun _ z => absurd z List.not_mem_nil)⟩
set_option maxRecDepth 200000 in
theorem C_X6_amount (N : Nat) : CTI 1 yX6_amount cX6_amount 1 (some .int) (a_X6_amount N) := by
  refine CTI.of (own := RX6) (by decide) rfl (fun as σ r h => ?_)
  unfold a_X6_amount at h
  rcases kSE_s h with ⟨r0, rfl, h0⟩ | hn
  ·
    obtain ⟨rfl, h9⟩ := kS0_s h0
    exact ⟨Nat.le_of_ble_eq_true rfl, by refine GO.to (md_X6_amount N) (kl := []) ((fun _ z => absurd z List.not_mem_nil)) 12 ?_ ?_ <;> rfl⟩
  cases hn
def T_X6_numberA : List (Nat × Ent) := [(0, .iload_n 1, 1, []), (1, .iconst 1, 2, []), (2, .aload_n 0, 3, []), (3, .getfield 42, 6, []), (6, .ishl, 7, []), (7, .iconst 1, 8, []), (8, .isub, 9, []), (9, .iand, 10, []), (10, .ireturn, 11, [])]
set_option maxRecDepth 200000 in
theorem tc_X6_numberA : T_X6_numberA.all (chk cX6_numberA) = true := by decide +kernel
def f_X6_numberA (N : Nat) (a1 : Int32) (σ : Wd) : Option (Int32 × Wd) :=
  some (a1 &&& ((1 <<< ((σ.1 6 3) &&& 31)) - 1), σ)
def a_X6_numberA (N : Nat) : List Value → Wd → Option (Int32 × Wd) := fun as σ => kSE 6 as (fun r0 => kSI r0 (fun b1 r1 => kS0 r1 (f_X6_numberA N b1 σ))) (none)
def ct_X6_numberA (N : Nat) : List (Nat × Cal) := []
set_option maxRecDepth 200000 in
theorem md_X6_numberA (N : Nat) : MDOK T_X6_numberA ft_X6 lt_X6 (ct_X6_numberA N) cX6_numberA RX6 1 := ⟨tc_X6_numberA, fc_X6, lc_X6, (fun _ z => absurd z List.not_mem_nil)⟩
set_option maxRecDepth 200000 in
theorem C_X6_numberA (N : Nat) : CTI 1 yX6_numberA cX6_numberA 2 (some .int) (a_X6_numberA N) := by
  refine CTI.of (own := RX6) (by decide) rfl (fun as σ r h => ?_)
  unfold a_X6_numberA at h
  rcases kSE_s h with ⟨r0, rfl, h0⟩ | hn
  ·
    obtain ⟨b1, r1, rfl, h1⟩ := kSI_s h0
    obtain ⟨rfl, h9⟩ := kS0_s h1
    exact ⟨Nat.le_of_ble_eq_true rfl, by refine GO.to (md_X6_numberA N) (kl := []) ((fun _ z => absurd z List.not_mem_nil)) 14 ?_ ?_ <;> rfl⟩
  cases hn
def T_X6_numberB : List (Nat × Ent) := [(0, .iload_n 1, 1, []), (1, .aload_n 0, 2, []), (2, .getfield 42, 5, []), (5, .ishr, 6, []), (6, .iconst 1, 7, []), (7, .aload_n 0, 8, []), (8, .getfield 42, 11, []), (11, .ishl, 12, []), (12, .iconst 1, 13, []), (13, .isub, 14, []), (14, .iand, 15, []), (15, .ireturn, 16, [])]
set_option maxRecDepth 200000 in
theorem tc_X6_numberB : T_X6_numberB.all (chk cX6_numberB) = true := by decide +kernel
def f_X6_numberB (N : Nat) (a1 : Int32) (σ : Wd) : Option (Int32 × Wd) :=
  some ((a1 >>> ((σ.1 6 3) &&& 31)) &&& ((1 <<< ((σ.1 6 3) &&& 31)) - 1), σ)
def a_X6_numberB (N : Nat) : List Value → Wd → Option (Int32 × Wd) := fun as σ => kSE 6 as (fun r0 => kSI r0 (fun b1 r1 => kS0 r1 (f_X6_numberB N b1 σ))) (none)
def ct_X6_numberB (N : Nat) : List (Nat × Cal) := []
set_option maxRecDepth 200000 in
theorem md_X6_numberB (N : Nat) : MDOK T_X6_numberB ft_X6 lt_X6 (ct_X6_numberB N) cX6_numberB RX6 1 := ⟨tc_X6_numberB, fc_X6, lc_X6, (fun _ z => absurd z List.not_mem_nil)⟩
set_option maxRecDepth 200000 in
theorem C_X6_numberB (N : Nat) : CTI 1 yX6_numberB cX6_numberB 2 (some .int) (a_X6_numberB N) := by
  refine CTI.of (own := RX6) (by decide) rfl (fun as σ r h => ?_)
  unfold a_X6_numberB at h
  rcases kSE_s h with ⟨r0, rfl, h0⟩ | hn
  ·
    obtain ⟨b1, r1, rfl, h1⟩ := kSI_s h0
    obtain ⟨rfl, h9⟩ := kS0_s h1
    exact ⟨Nat.le_of_ble_eq_true rfl, by refine GO.to (md_X6_numberB N) (kl := []) ((fun _ z => absurd z List.not_mem_nil)) 17 ?_ ?_ <;> rfl⟩
  cases hn
def T_X6_worst : List (Nat × Ent) := [(0, .iconst 0, 1, []), (1, .istore_n 2, 2, []), (2, .iconst 1, 3, []), (3, .istore_n 3, 4, []), (4, .iload_n 3, 5, []), (5, .aload_n 0, 6, []), (6, .invokevirtual 43, 9, []), (9, .if_icmp .ge 26, 12, [35]), (12, .aload_n 0, 13, []), (13, .getfield 11, 16, []), (16, .iload_n 3, 17, []), (17, .iaload, 18, []), (18, .aload_n 0, 19, []), (19, .getfield 11, 22, []), (22, .iload_n 2, 23, []), (23, .iaload, 24, []), (24, .if_icmp .le 5, 27, [29]), (27, .iload_n 3, 28, []), (28, .istore_n 2, 29, []), (29, .iinc 3 1, 32, []), (32, .goto (-28), 35, [4]), (35, .iload_n 1, 36, []), (36, .tableswitch 49 1 3 #[28, 34, 40], 64, [85, 64, 70, 76]), (64, .aload_n 0, 65, []), (65, .iload_n 2, 66, []), (66, .invokevirtual 47, 69, []), (69, .ireturn, 70, []), (70, .aload_n 0, 71, []), (71, .iload_n 2, 72, []), (72, .invokevirtual 51, 75, []), (75, .ireturn, 76, []), (76, .iload_n 2, 77, []), (77, .iconst 2, 78, []), (78, .aload_n 0, 79, []), (79, .getfield 42, 82, []), (82, .imul, 83, []), (83, .ishr, 84, []), (84, .ireturn, 85, []), (85, .aload_n 0, 86, []), (86, .getfield 11, 89, []), (89, .iload_n 2, 90, []), (90, .iaload, 91, []), (91, .ireturn, 92, [])]
set_option maxRecDepth 200000 in
theorem tc_X6_worst : T_X6_worst.all (chk cX6_worst) = true := by decide +kernel
def f_X6_worst_L4 (N : Nat) (KO35 : Int32 → Int32 → Wd → Option (Int32 × Wd)) : Nat → Int32 → Int32 → Int32 → Wd → Option (Int32 × Wd)
  | 0, _, _, _, _ => none
  | n + 1, x1, x2, x3, σ => (f_X6_amount N σ).bind fun p1 => if p1.1 ≤ x3 then (KO35 x1 x2 p1.2) else ((xld p1.2 36 512 x3).bind fun v2 => (xld p1.2 36 512 x2).bind fun v3 => if v2 ≤ v3 then (f_X6_worst_L4 N KO35 n x1 x2 (x3 + 1) p1.2) else (f_X6_worst_L4 N KO35 n x1 x3 (x3 + 1) p1.2))
def f_X6_worst_J35 (N : Nat) (x1 : Int32) (x2 : Int32) (σ : Wd) : Option (Int32 × Wd) :=
  if x1 = 1 then ((f_X6_numberA N x2 σ).bind fun p4 => some (p4.1, p4.2)) else if x1 = 2 then ((f_X6_numberB N x2 σ).bind fun p5 => some (p5.1, p5.2)) else if x1 = 3 then (some (x2 >>> ((2 * (σ.1 6 3)) &&& 31), σ)) else ((xld σ 36 512 x2).bind fun v6 => some (v6, σ))
def f_X6_worst (N : Nat) (a1 : Int32) (σ : Wd) : Option (Int32 × Wd) :=
  f_X6_worst_L4 N (f_X6_worst_J35 N) N a1 0 1 σ
def a_X6_worst (N : Nat) : List Value → Wd → Option (Int32 × Wd) := fun as σ => kSE 6 as (fun r0 => kSI r0 (fun b1 r1 => kS0 r1 (f_X6_worst N b1 σ))) (none)
set_option maxRecDepth 200000 in
theorem k_X6_43 : calchk RX6 43 1 6 yX6_amount cX6_amount 1 (some .int) = true := by decide +kernel
set_option maxRecDepth 200000 in
theorem k_X6_47 : calchk RX6 47 2 6 yX6_numberA cX6_numberA 2 (some .int) = true := by decide +kernel
set_option maxRecDepth 200000 in
theorem k_X6_51 : calchk RX6 51 2 6 yX6_numberB cX6_numberB 2 (some .int) = true := by decide +kernel
def ct_X6_worst (N : Nat) : List (Nat × Cal) := [(43, 1, 6, .inl (a_X6_amount N)), (47, 2, 6, .inl (a_X6_numberA N)), (51, 2, 6, .inl (a_X6_numberB N))]
set_option maxRecDepth 200000 in
theorem md_X6_worst (N : Nat) : MDOK T_X6_worst ft_X6 lt_X6 (ct_X6_worst N) cX6_worst RX6 2 := ⟨tc_X6_worst, fc_X6, lc_X6, List.forall_mem_cons.mpr ⟨Or.inl ⟨yX6_amount, cX6_amount, 1, (some .int), 1, k_X6_43, Nat.le_of_ble_eq_true rfl, C_X6_amount N⟩, List.forall_mem_cons.mpr ⟨Or.inl ⟨yX6_numberA, cX6_numberA, 2, (some .int), 1, k_X6_47, Nat.le_of_ble_eq_true rfl, C_X6_numberA N⟩, List.forall_mem_cons.mpr ⟨Or.inl ⟨yX6_numberB, cX6_numberB, 2, (some .int), 1, k_X6_51, Nat.le_of_ble_eq_true rfl, C_X6_numberB N⟩, (fun _ z => absurd z List.not_mem_nil)⟩⟩⟩⟩
set_option maxRecDepth 200000 in
theorem g_X6_worst_L4 (N : Nat) (KO35 : Int32 → Int32 → Wd → Option (Int32 × Wd)) (hKO35 : ∀ (x1 : Int32) (x2 : Int32) (σ : Wd), GO cX6_worst RX6 4 2 sc0 rI nJ0 nV0 (KO35 x1 x2 σ) 35 (mkp 0 4 [(0, .ref 6), (1, .int x1), (2, .int x2)]) [] σ) : ∀ (n : Nat), ∀ (x1 : Int32) (x2 : Int32) (x3 : Int32) (σ : Wd), GO cX6_worst RX6 4 2 sc0 rI nJ0 nV0 (f_X6_worst_L4 N KO35 n x1 x2 x3 σ) 4 (mkp 0 4 [(0, .ref 6), (1, .int x1), (2, .int x2), (3, .int x3)]) [] σ
  | 0, x1, x2, x3, σ => GO.none
  | n + 1, x1, x2, x3, σ => by
    exact (by refine GO.to (md_X6_worst N) (kl := [(35, fun vs st σ => kS0 st (kA 0 6 vs (kI 1 vs (fun x1 => kI 2 vs (fun x2 => KO35 x1 x2 σ))))), (4, fun vs st σ => kS0 st (kA 0 6 vs (kI 1 vs (fun x1 => kI 2 vs (fun x2 => kI 3 vs (fun x3 => f_X6_worst_L4 N KO35 n x1 x2 x3 σ))))))]) (List.forall_mem_cons.mpr ⟨fun vs st σ => go_kS0 (go_kA (fun h0 => go_kI (fun x1 h1 => go_kI (fun x2 h2 => GO.pat [(0, .ref 6), (1, .int x1), (2, .int x2)] ⟨h0, h1, h2, trivial⟩ (hKO35 x1 x2 σ))))), List.forall_mem_cons.mpr ⟨fun vs st σ => go_kS0 (go_kA (fun h0 => go_kI (fun x1 h1 => go_kI (fun x2 h2 => go_kI (fun x3 h3 => GO.pat [(0, .ref 6), (1, .int x1), (2, .int x2), (3, .int x3)] ⟨h0, h1, h2, h3, trivial⟩ (g_X6_worst_L4 N KO35 hKO35 n x1 x2 x3 σ)))))), (fun _ z => absurd z List.not_mem_nil)⟩⟩) 48 ?_ ?_ <;> rfl)
set_option maxRecDepth 200000 in
theorem g_X6_worst_J35 (N : Nat) (x1 : Int32) (x2 : Int32) (σ : Wd) : GO cX6_worst RX6 4 2 sc0 rI nJ0 nV0 (f_X6_worst_J35 N x1 x2 σ) 35 (mkp 0 4 [(0, .ref 6), (1, .int x1), (2, .int x2)]) [] σ := by
  exact (by refine GO.to (md_X6_worst N) (kl := []) ((fun _ z => absurd z List.not_mem_nil)) 48 ?_ ?_ <;> rfl)
set_option maxRecDepth 200000 in
theorem C_X6_worst (N : Nat) : CTI 2 yX6_worst cX6_worst 4 (some .int) (a_X6_worst N) := by
  refine CTI.of (own := RX6) (by decide) rfl (fun as σ r h => ?_)
  unfold a_X6_worst at h
  rcases kSE_s h with ⟨r0, rfl, h0⟩ | hn
  ·
    obtain ⟨b1, r1, rfl, h1⟩ := kSI_s h0
    obtain ⟨rfl, h9⟩ := kS0_s h1
    exact ⟨Nat.le_of_ble_eq_true rfl, by refine GO.to (md_X6_worst N) (kl := [(4, fun vs st σ => kS0 st (kA 0 6 vs (kI 1 vs (fun x1 => kI 2 vs (fun x2 => kI 3 vs (fun x3 => f_X6_worst_L4 N (f_X6_worst_J35 N) N x1 x2 x3 σ))))))]) (List.forall_mem_cons.mpr ⟨fun vs st σ => go_kS0 (go_kA (fun h0 => go_kI (fun x1 h1 => go_kI (fun x2 h2 => go_kI (fun x3 h3 => GO.pat [(0, .ref 6), (1, .int x1), (2, .int x2), (3, .int x3)] ⟨h0, h1, h2, h3, trivial⟩ (g_X6_worst_L4 N (f_X6_worst_J35 N) (g_X6_worst_J35 N) N x1 x2 x3 σ)))))), (fun _ z => absurd z List.not_mem_nil)⟩) 48 ?_ ?_ <;> rfl⟩
  cases hn
def T_X6_settledBy : List (Nat × Ent) := [(0, .iconst 0, 1, []), (1, .istore_n 2, 2, []), (2, .iconst 0, 3, []), (3, .istore_n 3, 4, []), (4, .iload_n 3, 5, []), (5, .aload_n 0, 6, []), (6, .invokevirtual 43, 9, []), (9, .if_icmp .ge 22, 12, [31]), (12, .aload_n 0, 13, []), (13, .getfield 11, 16, []), (16, .iload_n 3, 17, []), (17, .iaload, 18, []), (18, .iload_n 1, 19, []), (19, .if_icmp .gt 6, 22, [25]), (22, .iinc 2 1, 25, []), (25, .iinc 3 1, 28, []), (28, .goto (-24), 31, [4]), (31, .iload_n 2, 32, []), (32, .ireturn, 33, [])]
set_option maxRecDepth 200000 in
theorem tc_X6_settledBy : T_X6_settledBy.all (chk cX6_settledBy) = true := by decide +kernel
def f_X6_settledBy_L4 (N : Nat) (KO31 : Int32 → Wd → Option (Int32 × Wd)) : Nat → Int32 → Int32 → Int32 → Wd → Option (Int32 × Wd)
  | 0, _, _, _, _ => none
  | n + 1, x1, x2, x3, σ => (f_X6_amount N σ).bind fun p1 => if p1.1 ≤ x3 then (KO31 x2 p1.2) else ((xld p1.2 36 512 x3).bind fun v2 => if x1 < v2 then (f_X6_settledBy_L4 N KO31 n x1 x2 (x3 + 1) p1.2) else (f_X6_settledBy_L4 N KO31 n x1 (x2 + 1) (x3 + 1) p1.2))
def f_X6_settledBy_J31 (N : Nat) (x2 : Int32) (σ : Wd) : Option (Int32 × Wd) :=
  some (x2, σ)
def f_X6_settledBy (N : Nat) (a1 : Int32) (σ : Wd) : Option (Int32 × Wd) :=
  f_X6_settledBy_L4 N (f_X6_settledBy_J31 N) N a1 0 0 σ
def a_X6_settledBy (N : Nat) : List Value → Wd → Option (Int32 × Wd) := fun as σ => kSE 6 as (fun r0 => kSI r0 (fun b1 r1 => kS0 r1 (f_X6_settledBy N b1 σ))) (none)
def ct_X6_settledBy (N : Nat) : List (Nat × Cal) := [(43, 1, 6, .inl (a_X6_amount N))]
set_option maxRecDepth 200000 in
theorem md_X6_settledBy (N : Nat) : MDOK T_X6_settledBy ft_X6 lt_X6 (ct_X6_settledBy N) cX6_settledBy RX6 2 := ⟨tc_X6_settledBy, fc_X6, lc_X6, List.forall_mem_cons.mpr ⟨Or.inl ⟨yX6_amount, cX6_amount, 1, (some .int), 1, k_X6_43, Nat.le_of_ble_eq_true rfl, C_X6_amount N⟩, (fun _ z => absurd z List.not_mem_nil)⟩⟩
set_option maxRecDepth 200000 in
theorem g_X6_settledBy_L4 (N : Nat) (KO31 : Int32 → Wd → Option (Int32 × Wd)) (hKO31 : ∀ (x2 : Int32) (σ : Wd), GO cX6_settledBy RX6 4 2 sc0 rI nJ0 nV0 (KO31 x2 σ) 31 (mkp 0 4 [(2, .int x2)]) [] σ) : ∀ (n : Nat), ∀ (x1 : Int32) (x2 : Int32) (x3 : Int32) (σ : Wd), GO cX6_settledBy RX6 4 2 sc0 rI nJ0 nV0 (f_X6_settledBy_L4 N KO31 n x1 x2 x3 σ) 4 (mkp 0 4 [(0, .ref 6), (1, .int x1), (2, .int x2), (3, .int x3)]) [] σ
  | 0, x1, x2, x3, σ => GO.none
  | n + 1, x1, x2, x3, σ => by
    exact (by refine GO.to (md_X6_settledBy N) (kl := [(31, fun vs st σ => kS0 st (kI 2 vs (fun x2 => KO31 x2 σ))), (4, fun vs st σ => kS0 st (kA 0 6 vs (kI 1 vs (fun x1 => kI 2 vs (fun x2 => kI 3 vs (fun x3 => f_X6_settledBy_L4 N KO31 n x1 x2 x3 σ))))))]) (List.forall_mem_cons.mpr ⟨fun vs st σ => go_kS0 (go_kI (fun x2 h2 => GO.pat [(2, .int x2)] ⟨h2, trivial⟩ (hKO31 x2 σ))), List.forall_mem_cons.mpr ⟨fun vs st σ => go_kS0 (go_kA (fun h0 => go_kI (fun x1 h1 => go_kI (fun x2 h2 => go_kI (fun x3 h3 => GO.pat [(0, .ref 6), (1, .int x1), (2, .int x2), (3, .int x3)] ⟨h0, h1, h2, h3, trivial⟩ (g_X6_settledBy_L4 N KO31 hKO31 n x1 x2 x3 σ)))))), (fun _ z => absurd z List.not_mem_nil)⟩⟩) 24 ?_ ?_ <;> rfl)
set_option maxRecDepth 200000 in
theorem g_X6_settledBy_J31 (N : Nat) (x2 : Int32) (σ : Wd) : GO cX6_settledBy RX6 4 2 sc0 rI nJ0 nV0 (f_X6_settledBy_J31 N x2 σ) 31 (mkp 0 4 [(2, .int x2)]) [] σ := by
  exact (by refine GO.to (md_X6_settledBy N) (kl := []) ((fun _ z => absurd z List.not_mem_nil)) 24 ?_ ?_ <;> rfl)
set_option maxRecDepth 200000 in
theorem C_X6_settledBy (N : Nat) : CTI 2 yX6_settledBy cX6_settledBy 4 (some .int) (a_X6_settledBy N) := by
  refine CTI.of (own := RX6) (by decide) rfl (fun as σ r h => ?_)
  unfold a_X6_settledBy at h
  rcases kSE_s h with ⟨r0, rfl, h0⟩ | hn
  ·
    obtain ⟨b1, r1, rfl, h1⟩ := kSI_s h0
    obtain ⟨rfl, h9⟩ := kS0_s h1
    exact ⟨Nat.le_of_ble_eq_true rfl, by refine GO.to (md_X6_settledBy N) (kl := [(4, fun vs st σ => kS0 st (kA 0 6 vs (kI 1 vs (fun x1 => kI 2 vs (fun x2 => kI 3 vs (fun x3 => f_X6_settledBy_L4 N (f_X6_settledBy_J31 N) N x1 x2 x3 σ))))))]) (List.forall_mem_cons.mpr ⟨fun vs st σ => go_kS0 (go_kA (fun h0 => go_kI (fun x1 h1 => go_kI (fun x2 h2 => go_kI (fun x3 h3 => GO.pat [(0, .ref 6), (1, .int x1), (2, .int x2), (3, .int x3)] ⟨h0, h1, h2, h3, trivial⟩ (g_X6_settledBy_L4 N (f_X6_settledBy_J31 N) (g_X6_settledBy_J31 N) N x1 x2 x3 σ)))))), (fun _ z => absurd z List.not_mem_nil)⟩) 24 ?_ ?_ <;> rfl⟩
  cases hn
def T_X6_over : List (Nat × Ent) := [(0, .aload_n 0, 1, []), (1, .getfield 15, 4, []), (4, .ifCond .eq 13, 7, [17]), (7, .aload_n 0, 8, []), (8, .getfield 19, 11, []), (11, .lload_n 3, 12, []), (12, .lcmp, 13, []), (13, .ifCond .ne 4, 16, [17]), (16, .return_, 17, []), (17, .aload_n 1, 18, []), (18, .invokevirtual 23, 21, []), (21, .aload_n 1, 22, []), (22, .lload_n 3, 23, []), (23, .invokevirtual 28, 26, []), (26, .aload_n 0, 27, []), (27, .aload_n 1, 28, []), (28, .getfield 32, 31, []), (31, .iconst 4, 32, []), (32, .invokestatic 36, 35, []), (35, .putfield 42, 38, []), (38, .iconst 0, 39, []), (39, .istore 5, 41, []), (41, .iload 5, 43, []), (43, .aload_n 0, 44, []), (44, .invokevirtual 43, 47, []), (47, .if_icmp .ge 48, 50, [95]), (50, .aload_n 2, 51, []), (51, .aload_n 1, 52, []), (52, .aload_n 0, 53, []), (53, .iload 5, 55, []), (55, .invokevirtual 47, 58, []), (58, .aload_n 0, 59, []), (59, .iload 5, 61, []), (61, .invokevirtual 51, 64, []), (64, .iload 5, 66, []), (66, .iconst 2, 67, []), (67, .aload_n 0, 68, []), (68, .getfield 42, 71, []), (71, .imul, 72, []), (72, .ishr, 73, []), (73, .invokevirtual 54, 76, []), (76, .aload_n 0, 77, []), (77, .getfield 11, 80, []), (80, .iload 5, 82, []), (82, .aload_n 2, 83, []), (83, .aload_n 1, 84, []), (84, .iconst (-1), 85, []), (85, .invokevirtual 60, 88, []), (88, .iastore, 89, []), (89, .iinc 5 1, 92, []), (92, .goto (-51), 95, [41]), (95, .aload_n 0, 96, []), (96, .lload_n 3, 97, []), (97, .putfield 19, 100, []), (100, .aload_n 0, 101, []), (101, .iconst 1, 102, []), (102, .putfield 15, 105, []), (105, .return_, 106, [])]
set_option maxRecDepth 200000 in
theorem tc_X6_over : T_X6_over.all (chk cX6_over) = true := by decide +kernel
def f_X6_over_L41 (N : Nat) (KO95 : Int64 → Wd → Option Wd) : Nat → Int64 → Int32 → Wd → Option Wd
  | 0, _, _, _ => none
  | n + 1, x3, x5, σ => (f_X6_amount N σ).bind fun p5 => if p5.1 ≤ x5 then (KO95 x3 p5.2) else ((f_X6_numberA N x5 p5.2).bind fun p6 => (f_X6_numberB N x5 p6.2).bind fun p7 => (f_X8_settle N p6.1 p7.1 (x5 >>> ((2 * (p7.2.1 6 3)) &&& 31)) p7.2).bind fun σ8 => (f_X8_ofOutcome N (-1) σ8).bind fun p9 => (xst p9.2 36 512 x5 p9.1).bind fun σ10 => f_X6_over_L41 N KO95 n x3 (x5 + 1) σ10)
def f_X6_over_J95 (N : Nat) (x3 : Int64) (σ : Wd) : Option Wd :=
  let σ11 : Wd := sG σ 6 2 x3
  let σ12 : Wd := sF σ11 6 0 1
  some σ12
def f_X6_over_J17 (N : Nat) (x3 : Int64) (σ : Wd) : Option Wd :=
  (f_X2_clear N σ).bind fun σ1 => (f_X2_build N x3 σ1).bind fun σ2 => (f_J9_min_7cf53 N (σ2.1 4 6) 4 σ2).bind fun p3 => let σ4 : Wd := sF p3.2 6 3 p3.1
  f_X6_over_L41 N (f_X6_over_J95 N) N x3 0 σ4
def f_X6_over (N : Nat) (a3 : Int64) (σ : Wd) : Option Wd :=
  if (σ.1 6 0) = 0 then (f_X6_over_J17 N a3 σ) else (if (lg_cmp (σ.2 6 2) a3) = 0 then (some σ) else (f_X6_over_J17 N a3 σ))
def a_X6_over (N : Nat) : List Value → Wd → Option Wd := fun as σ => kSE 6 as (fun r0 => kSE 4 r0 (fun r1 => kSE 5 r1 (fun r2 => kSJ r2 (fun b3 r3 => kS0 r3 (f_X6_over N b3 σ))) (none)) (none)) (none)
set_option maxRecDepth 200000 in
theorem k_X6_23 : calchk RX6 23 1 2 yX2_clear cX2_clear 2 none = true := by decide +kernel
set_option maxRecDepth 200000 in
theorem k_X6_28 : calchk RX6 28 2 2 yX2_build cX2_build 5 none = true := by decide +kernel
set_option maxRecDepth 200000 in
theorem k_X6_36 : mmchk RX6 36 Lib.Math.min.name Lib.Math.min.code = true := by decide +kernel
set_option maxRecDepth 200000 in
theorem k_X6_54 : calchk RX6 54 5 8 yX8_settle cX8_settle 7 none = true := by decide +kernel
set_option maxRecDepth 200000 in
theorem k_X6_60 : calchk RX6 60 3 8 yX8_ofOutcome cX8_ofOutcome 3 (some .int) = true := by decide +kernel
def ct_X6_over (N : Nat) : List (Nat × Cal) := [(23, 1, 2, .inr (.inr (a_X2_clear N))), (28, 2, 2, .inr (.inr (a_X2_build N))), (36, 2, 0, .inl amin), (43, 1, 6, .inl (a_X6_amount N)), (47, 2, 6, .inl (a_X6_numberA N)), (51, 2, 6, .inl (a_X6_numberB N)), (54, 5, 8, .inr (.inr (a_X8_settle N))), (60, 3, 8, .inl (a_X8_ofOutcome N))]
set_option maxRecDepth 200000 in
theorem md_X6_over (N : Nat) : MDOK T_X6_over ft_X6 lt_X6 (ct_X6_over N) cX6_over RX6 16 := ⟨tc_X6_over, fc_X6, lc_X6, List.forall_mem_cons.mpr ⟨Or.inl ⟨yX2_clear, cX2_clear, 2, none, 1, k_X6_23, Nat.le_of_ble_eq_true rfl, C_X2_clear N⟩, List.forall_mem_cons.mpr ⟨Or.inl ⟨yX2_build, cX2_build, 5, none, 15, k_X6_28, Nat.le_of_ble_eq_true rfl, C_X2_build N⟩, List.forall_mem_cons.mpr ⟨Or.inr (Or.inr ⟨rfl, k_X6_36, Nat.le_of_ble_eq_true rfl⟩), List.forall_mem_cons.mpr ⟨Or.inl ⟨yX6_amount, cX6_amount, 1, (some .int), 1, k_X6_43, Nat.le_of_ble_eq_true rfl, C_X6_amount N⟩, List.forall_mem_cons.mpr ⟨Or.inl ⟨yX6_numberA, cX6_numberA, 2, (some .int), 1, k_X6_47, Nat.le_of_ble_eq_true rfl, C_X6_numberA N⟩, List.forall_mem_cons.mpr ⟨Or.inl ⟨yX6_numberB, cX6_numberB, 2, (some .int), 1, k_X6_51, Nat.le_of_ble_eq_true rfl, C_X6_numberB N⟩, List.forall_mem_cons.mpr ⟨Or.inl ⟨yX8_settle, cX8_settle, 7, none, 3, k_X6_54, Nat.le_of_ble_eq_true rfl, C_X8_settle N⟩, List.forall_mem_cons.mpr ⟨Or.inl ⟨yX8_ofOutcome, cX8_ofOutcome, 3, (some .int), 3, k_X6_60, Nat.le_of_ble_eq_true rfl, C_X8_ofOutcome N⟩, (fun _ z => absurd z List.not_mem_nil)⟩⟩⟩⟩⟩⟩⟩⟩⟩
set_option maxRecDepth 200000 in
theorem g_X6_over_L41 (N : Nat) (KO95 : Int64 → Wd → Option Wd) (hKO95 : ∀ (x3 : Int64) (σ : Wd), GO cX6_over RX6 6 16 sc0 nI0 nJ0 some (KO95 x3 σ) 95 (mkp 0 6 [(0, .ref 6), (3, .long x3)]) [] σ) : ∀ (n : Nat), ∀ (x3 : Int64) (x5 : Int32) (σ : Wd), GO cX6_over RX6 6 16 sc0 nI0 nJ0 some (f_X6_over_L41 N KO95 n x3 x5 σ) 41 (mkp 0 6 [(0, .ref 6), (1, .ref 4), (2, .ref 5), (3, .long x3), (5, .int x5)]) [] σ
  | 0, x3, x5, σ => GO.none
  | n + 1, x3, x5, σ => by
    exact (by refine GO.to (md_X6_over N) (kl := [(95, fun vs st σ => kS0 st (kA 0 6 vs (kJ 3 vs (fun x3 => KO95 x3 σ)))), (41, fun vs st σ => kS0 st (kA 0 6 vs (kA 1 4 vs (kA 2 5 vs (kJ 3 vs (fun x3 => kI 5 vs (fun x5 => f_X6_over_L41 N KO95 n x3 x5 σ)))))))]) (List.forall_mem_cons.mpr ⟨fun vs st σ => go_kS0 (go_kA (fun h0 => go_kJ (fun x3 h3 => GO.pat [(0, .ref 6), (3, .long x3)] ⟨h0, h3, trivial⟩ (hKO95 x3 σ)))), List.forall_mem_cons.mpr ⟨fun vs st σ => go_kS0 (go_kA (fun h0 => go_kA (fun h1 => go_kA (fun h2 => go_kJ (fun x3 h3 => go_kI (fun x5 h5 => GO.pat [(0, .ref 6), (1, .ref 4), (2, .ref 5), (3, .long x3), (5, .int x5)] ⟨h0, h1, h2, h3, h5, trivial⟩ (g_X6_over_L41 N KO95 hKO95 n x3 x5 σ))))))), (fun _ z => absurd z List.not_mem_nil)⟩⟩) 63 ?_ ?_ <;> rfl)
set_option maxRecDepth 200000 in
theorem g_X6_over_J95 (N : Nat) (x3 : Int64) (σ : Wd) : GO cX6_over RX6 6 16 sc0 nI0 nJ0 some (f_X6_over_J95 N x3 σ) 95 (mkp 0 6 [(0, .ref 6), (3, .long x3)]) [] σ := by
  exact (by refine GO.to (md_X6_over N) (kl := []) ((fun _ z => absurd z List.not_mem_nil)) 63 ?_ ?_ <;> rfl)
set_option maxRecDepth 200000 in
theorem g_X6_over_J17 (N : Nat) (x3 : Int64) (σ : Wd) : GO cX6_over RX6 6 16 sc0 nI0 nJ0 some (f_X6_over_J17 N x3 σ) 17 (mkp 0 6 [(0, .ref 6), (1, .ref 4), (2, .ref 5), (3, .long x3)]) [] σ := by
  exact (by refine GO.to (md_X6_over N) (kl := [(41, fun vs st σ => kS0 st (kA 0 6 vs (kA 1 4 vs (kA 2 5 vs (kJ 3 vs (fun x3 => kI 5 vs (fun x5 => f_X6_over_L41 N (f_X6_over_J95 N) N x3 x5 σ)))))))]) (List.forall_mem_cons.mpr ⟨fun vs st σ => go_kS0 (go_kA (fun h0 => go_kA (fun h1 => go_kA (fun h2 => go_kJ (fun x3 h3 => go_kI (fun x5 h5 => GO.pat [(0, .ref 6), (1, .ref 4), (2, .ref 5), (3, .long x3), (5, .int x5)] ⟨h0, h1, h2, h3, h5, trivial⟩ (g_X6_over_L41 N (f_X6_over_J95 N) (g_X6_over_J95 N) N x3 x5 σ))))))), (fun _ z => absurd z List.not_mem_nil)⟩) 63 ?_ ?_ <;> rfl)
set_option maxRecDepth 200000 in
theorem C_X6_over (N : Nat) : CTV 16 yX6_over cX6_over 6 none (a_X6_over N) := by
  refine CTV.of (own := RX6) (by decide) rfl (fun as σ r h => ?_)
  unfold a_X6_over at h
  rcases kSE_s h with ⟨r0, rfl, h0⟩ | hn
  ·
    rcases kSE_s h0 with ⟨r1, rfl, h1⟩ | h0n
    ·
      rcases kSE_s h1 with ⟨r2, rfl, h2⟩ | h1n
      ·
        obtain ⟨b3, r3, rfl, h3⟩ := kSJ_s h2
        obtain ⟨rfl, h9⟩ := kS0_s h3
        exact ⟨Nat.le_of_ble_eq_true rfl, by refine GO.to (md_X6_over N) (kl := [(17, fun vs st σ => kS0 st (kA 0 6 vs (kA 1 4 vs (kA 2 5 vs (kJ 3 vs (fun x3 => f_X6_over_J17 N x3 σ))))))]) (List.forall_mem_cons.mpr ⟨fun vs st σ => go_kS0 (go_kA (fun h0 => go_kA (fun h1 => go_kA (fun h2 => go_kJ (fun x3 h3 => GO.pat [(0, .ref 6), (1, .ref 4), (2, .ref 5), (3, .long x3)] ⟨h0, h1, h2, h3, trivial⟩ (g_X6_over_J17 N x3 σ)))))), (fun _ z => absurd z List.not_mem_nil)⟩) 63 ?_ ?_ <;> rfl⟩
      cases h1n
    cases h0n
  cases hn
def ft_X4 : List (Nat × FTE) := [(9, 3, 0, 2), (15, 3, 5, 0), (19, 3, 6, 0), (22, 3, 7, 0), (25, 3, 1, 0), (28, 3, 2, 0), (31, 3, 3, 0), (34, 3, 4, 1), (47, 1, 6, 0), (52, 1, 5, 0), (55, 1, 7, 0)]
def lt_X4 : List (Nat × Int64) := []
theorem fc_X4 : ft_X4.all (fun e => fldchk RX4 e && shchk e) = true := by decide +kernel
theorem lc_X4 : lt_X4.all (ltchk RX4) = true := by decide +kernel
def T_X4_weigh : List (Nat × Ent) := [(0, .aload_n 2, 1, []), (1, .aload_n 1, 2, []), (2, .invokevirtual 78, 5, []), (5, .aload_n 2, 6, []), (6, .aload_n 1, 7, []), (7, .iconst (-1), 8, []), (8, .invokevirtual 84, 11, []), (11, .istore 5, 13, []), (13, .iload 5, 15, []), (15, .aload_n 0, 16, []), (16, .getfield 22, 19, []), (19, .if_icmp .le 4, 22, [23]), (22, .return_, 23, []), (23, .aload_n 1, 24, []), (24, .invokevirtual 88, 27, []), (27, .aload_n 1, 28, []), (28, .iconst (-1), 29, []), (29, .invokevirtual 91, 32, []), (32, .istore 6, 34, []), (34, .aload_n 0, 35, []), (35, .getfield 25, 38, []), (38, .ifCond .eq 12, 41, [50]), (41, .iload 6, 43, []), (43, .aload_n 0, 44, []), (44, .getfield 28, 47, []), (47, .if_icmp .ge 20, 50, [67]), (50, .aload_n 0, 51, []), (51, .iload 6, 53, []), (53, .putfield 28, 56, []), (56, .aload_n 0, 57, []), (57, .iload 5, 59, []), (59, .putfield 31, 62, []), (62, .aload_n 0, 63, []), (63, .lload_n 3, 64, []), (64, .putfield 34, 67, []), (67, .aload_n 0, 68, []), (68, .dup, 69, []), (69, .getfield 25, 72, []), (72, .iconst 1, 73, []), (73, .iadd, 74, []), (74, .putfield 25, 77, []), (77, .return_, 78, [])]
set_option maxRecDepth 200000 in
theorem tc_X4_weigh : T_X4_weigh.all (chk cX4_weigh) = true := by decide +kernel
def f_X4_weigh_J50 (N : Nat) (x3 : Int64) (x5 : Int32) (x6 : Int32) (σ : Wd) : Option Wd :=
  let σ5 : Wd := sF σ 7 2 x6
  let σ6 : Wd := sF σ5 7 3 x5
  let σ7 : Wd := sG σ6 7 4 x3
  let σ8 : Wd := sF σ7 7 1 ((σ7.1 7 1) + 1)
  some σ8
def f_X4_weigh (N : Nat) (a3 : Int64) (σ : Wd) : Option Wd :=
  (f_X8_come N σ).bind fun σ1 => (f_X8_ofOutcome N (-1) σ1).bind fun p2 => if p2.1 ≤ (p2.2.1 7 7) then ((f_X2_markUsed N p2.2).bind fun σ3 => (f_X2_usedGates N (-1) σ3).bind fun p4 => if (p4.2.1 7 1) = 0 then (f_X4_weigh_J50 N a3 p2.1 p4.1 p4.2) else (if (p4.2.1 7 2) ≤ p4.1 then (let σ9 : Wd := sF p4.2 7 1 ((p4.2.1 7 1) + 1)
  some σ9) else (f_X4_weigh_J50 N a3 p2.1 p4.1 p4.2))) else (some p2.2)
def a_X4_weigh (N : Nat) : List Value → Wd → Option Wd := fun as σ => kSE 7 as (fun r0 => kSE 4 r0 (fun r1 => kSE 5 r1 (fun r2 => kSJ r2 (fun b3 r3 => kS0 r3 (f_X4_weigh N b3 σ))) (none)) (none)) (none)
set_option maxRecDepth 200000 in
theorem k_X4_78 : calchk RX4 78 2 8 yX8_come cX8_come 3 none = true := by decide +kernel
set_option maxRecDepth 200000 in
theorem k_X4_84 : calchk RX4 84 3 8 yX8_ofOutcome cX8_ofOutcome 3 (some .int) = true := by decide +kernel
set_option maxRecDepth 200000 in
theorem k_X4_88 : calchk RX4 88 1 2 yX2_markUsed cX2_markUsed 2 none = true := by decide +kernel
set_option maxRecDepth 200000 in
theorem k_X4_91 : calchk RX4 91 2 2 yX2_usedGates cX2_usedGates 4 (some .int) = true := by decide +kernel
def ct_X4_weigh (N : Nat) : List (Nat × Cal) := [(78, 2, 8, .inr (.inr (a_X8_come N))), (84, 3, 8, .inl (a_X8_ofOutcome N)), (88, 1, 2, .inr (.inr (a_X2_markUsed N))), (91, 2, 2, .inl (a_X2_usedGates N))]
set_option maxRecDepth 200000 in
theorem md_X4_weigh (N : Nat) : MDOK T_X4_weigh ft_X4 lt_X4 (ct_X4_weigh N) cX4_weigh RX4 4 := ⟨tc_X4_weigh, fc_X4, lc_X4, List.forall_mem_cons.mpr ⟨Or.inl ⟨yX8_come, cX8_come, 3, none, 3, k_X4_78, Nat.le_of_ble_eq_true rfl, C_X8_come N⟩, List.forall_mem_cons.mpr ⟨Or.inl ⟨yX8_ofOutcome, cX8_ofOutcome, 3, (some .int), 3, k_X4_84, Nat.le_of_ble_eq_true rfl, C_X8_ofOutcome N⟩, List.forall_mem_cons.mpr ⟨Or.inl ⟨yX2_markUsed, cX2_markUsed, 2, none, 2, k_X4_88, Nat.le_of_ble_eq_true rfl, C_X2_markUsed N⟩, List.forall_mem_cons.mpr ⟨Or.inl ⟨yX2_usedGates, cX2_usedGates, 4, (some .int), 1, k_X4_91, Nat.le_of_ble_eq_true rfl, C_X2_usedGates N⟩, (fun _ z => absurd z List.not_mem_nil)⟩⟩⟩⟩⟩
set_option maxRecDepth 200000 in
theorem g_X4_weigh_J50 (N : Nat) (x3 : Int64) (x5 : Int32) (x6 : Int32) (σ : Wd) : GO cX4_weigh RX4 7 4 sc0 nI0 nJ0 some (f_X4_weigh_J50 N x3 x5 x6 σ) 50 (mkp 0 7 [(0, .ref 7), (3, .long x3), (5, .int x5), (6, .int x6)]) [] σ := by
  exact (by refine GO.to (md_X4_weigh N) (kl := []) ((fun _ z => absurd z List.not_mem_nil)) 47 ?_ ?_ <;> rfl)
set_option maxRecDepth 200000 in
theorem C_X4_weigh (N : Nat) : CTV 4 yX4_weigh cX4_weigh 7 none (a_X4_weigh N) := by
  refine CTV.of (own := RX4) (by decide) rfl (fun as σ r h => ?_)
  unfold a_X4_weigh at h
  rcases kSE_s h with ⟨r0, rfl, h0⟩ | hn
  ·
    rcases kSE_s h0 with ⟨r1, rfl, h1⟩ | h0n
    ·
      rcases kSE_s h1 with ⟨r2, rfl, h2⟩ | h1n
      ·
        obtain ⟨b3, r3, rfl, h3⟩ := kSJ_s h2
        obtain ⟨rfl, h9⟩ := kS0_s h3
        exact ⟨Nat.le_of_ble_eq_true rfl, by refine GO.to (md_X4_weigh N) (kl := [(50, fun vs st σ => kS0 st (kA 0 7 vs (kJ 3 vs (fun x3 => kI 5 vs (fun x5 => kI 6 vs (fun x6 => f_X4_weigh_J50 N x3 x5 x6 σ))))))]) (List.forall_mem_cons.mpr ⟨fun vs st σ => go_kS0 (go_kA (fun h0 => go_kJ (fun x3 h3 => go_kI (fun x5 h5 => go_kI (fun x6 h6 => GO.pat [(0, .ref 7), (3, .long x3), (5, .int x5), (6, .int x6)] ⟨h0, h3, h5, h6, trivial⟩ (g_X4_weigh_J50 N x3 x5 x6 σ)))))), (fun _ z => absurd z List.not_mem_nil)⟩) 47 ?_ ?_ <;> rfl⟩
      cases h1n
    cases h0n
  cases hn
def T_X4_grow : List (Nat × Ent) := [(0, .aload_n 1, 1, []), (1, .getfield 47, 4, []), (4, .aload_n 0, 5, []), (5, .getfield 15, 8, []), (8, .if_icmp .ge 10, 11, [18]), (11, .iload 5, 13, []), (13, .bipush 6, 15, []), (15, .if_icmp .lt 11, 18, [26]), (18, .aload_n 0, 19, []), (19, .aload_n 1, 20, []), (20, .aload_n 2, 21, []), (21, .lload_n 3, 22, []), (22, .invokevirtual 48, 25, []), (25, .return_, 26, []), (26, .aload_n 1, 27, []), (27, .getfield 52, 30, []), (30, .istore 6, 32, []), (32, .aload_n 1, 33, []), (33, .getfield 47, 36, []), (36, .istore 7, 38, []), (38, .aload_n 1, 39, []), (39, .getfield 55, 42, []), (42, .istore 8, 44, []), (44, .iconst 3, 45, []), (45, .aload_n 0, 46, []), (46, .getfield 15, 49, []), (49, .iload 7, 51, []), (51, .isub, 52, []), (52, .invokestatic 58, 55, []), (55, .istore 9, 57, []), (57, .iconst 0, 58, []), (58, .istore 10, 60, []), (60, .iload 10, 62, []), (62, .iconst 3, 63, []), (63, .if_icmp .gt 84, 66, [147]), (66, .aload_n 0, 67, []), (67, .getfield 19, 70, []), (70, .iload 10, 72, []), (72, .ishr, 73, []), (73, .iconst 1, 74, []), (74, .iand, 75, []), (75, .iconst 1, 76, []), (76, .if_icmp .ne 8, 79, [84]), (79, .iload 9, 81, []), (81, .goto 4, 84, [85]), (84, .iconst 0, 85, []), (85, .istore 11, 87, []), (87, .iconst 1, 88, []), (88, .istore 12, 90, []), (90, .iload 12, 92, []), (92, .iload 11, 94, []), (94, .if_icmp .gt 47, 97, [141]), (97, .aload_n 1, 98, []), (98, .iload 10, 100, []), (100, .iload 12, 102, []), (102, .invokevirtual 64, 105, []), (105, .aload_n 0, 106, []), (106, .aload_n 1, 107, []), (107, .aload_n 2, 108, []), (108, .lload_n 3, 109, []), (109, .iload 5, 111, []), (111, .iload 10, 113, []), (113, .iload 12, 115, []), (115, .invokestatic 68, 118, []), (118, .iload 5, 120, []), (120, .iconst 1, 121, []), (121, .iadd, 122, []), (122, .invokestatic 43, 125, []), (125, .aload_n 1, 126, []), (126, .iload 6, 128, []), (128, .iload 7, 130, []), (130, .iload 8, 132, []), (132, .invokevirtual 74, 135, []), (135, .iinc 12 1, 138, []), (138, .goto (-48), 141, [90]), (141, .iinc 10 1, 144, []), (144, .goto (-84), 147, [60]), (147, .return_, 148, [])]
set_option maxRecDepth 200000 in
theorem tc_X4_grow : T_X4_grow.all (chk cX4_grow) = true := by decide +kernel
def f_X4_grow_L90 (N : Nat) (REC : Int64 → Int32 → Wd → Option Wd) (KO141 : Int64 → Int32 → Int32 → Int32 → Int32 → Int32 → Int32 → Wd → Option Wd) : Nat → Int64 → Int32 → Int32 → Int32 → Int32 → Int32 → Int32 → Int32 → Int32 → Wd → Option Wd
  | 0, _, _, _, _, _, _, _, _, _, _ => none
  | n + 1, x3, x5, x6, x7, x8, x9, x10, x11, x12, σ => if x11 < x12 then (KO141 x3 x5 x6 x7 x8 x9 x10 σ) else ((f_X2_lay N x10 x12 σ).bind fun σ3 => (f_X0_with N x3 x5 x10 x12 σ3).bind fun p4 => (REC p4.1 (x5 + 1) p4.2).bind fun σ5 => (f_X2_cutBack N x6 x7 x8 σ5).bind fun σ6 => f_X4_grow_L90 N REC KO141 n x3 x5 x6 x7 x8 x9 x10 x11 (x12 + 1) σ6)
def f_X4_grow_J141 (N : Nat) (REC : Int64 → Int32 → Wd → Option Wd) (KB : Int64 → Int32 → Int32 → Int32 → Int32 → Int32 → Int32 → Wd → Option Wd) (KO147 : Wd → Option Wd) (x3 : Int64) (x5 : Int32) (x6 : Int32) (x7 : Int32) (x8 : Int32) (x9 : Int32) (x10 : Int32) (σ : Wd) : Option Wd :=
  KB x3 x5 x6 x7 x8 x9 (x10 + 1) σ
def f_X4_grow_L60 (N : Nat) (REC : Int64 → Int32 → Wd → Option Wd) (KO147 : Wd → Option Wd) : Nat → Int64 → Int32 → Int32 → Int32 → Int32 → Int32 → Int32 → Wd → Option Wd
  | 0, _, _, _, _, _, _, _, _ => none
  | n + 1, x3, x5, x6, x7, x8, x9, x10, σ => if 3 < x10 then (KO147 σ) else (if (((σ.1 7 6) >>> (x10 &&& 31)) &&& 1) = 1 then (f_X4_grow_L90 N REC (f_X4_grow_J141 N REC (f_X4_grow_L60 N REC KO147 n) KO147) N x3 x5 x6 x7 x8 x9 x10 x9 1 σ) else (f_X4_grow_L90 N REC (f_X4_grow_J141 N REC (f_X4_grow_L60 N REC KO147 n) KO147) N x3 x5 x6 x7 x8 x9 x10 0 1 σ))
def f_X4_grow_J147 (N : Nat) (REC : Int64 → Int32 → Wd → Option Wd) (σ : Wd) : Option Wd :=
  some σ
def f_X4_grow (N : Nat) : Nat → Int64 → Int32 → Wd → Option Wd
  | 0, _, _, _ => none
  | d + 1, a3, a5, σ => if (σ.1 7 5) ≤ (σ.1 4 6) then ((f_X4_weigh N a3 σ).bind fun σ1 => some σ1) else (if a5 < 6 then ((f_J9_min_7cf53 N 3 ((σ.1 7 5) - (σ.1 4 6)) σ).bind fun p2 => f_X4_grow_L60 N (f_X4_grow N d) (f_X4_grow_J147 N (f_X4_grow N d)) N a3 a5 (σ.1 4 5) (σ.1 4 6) (σ.1 4 7) p2.1 0 p2.2) else ((f_X4_weigh N a3 σ).bind fun σ7 => some σ7))
def aR_X4_grow (REC : Int64 → Int32 → Wd → Option Wd) : List Value → Wd → Option Wd := fun as σ => kSE 7 as (fun r0 => kSE 4 r0 (fun r1 => kSE 5 r1 (fun r2 => kSJ r2 (fun b3 r3 => kSI r3 (fun b4 r4 => kS0 r4 (REC b3 b4 σ)))) (none)) (none)) (none)
def a_X4_grow (N d : Nat) : List Value → Wd → Option Wd := aR_X4_grow (f_X4_grow N d)
set_option maxRecDepth 200000 in
theorem k_X4_48 : calchk RX4 48 4 4 yX4_weigh cX4_weigh 7 none = true := by decide +kernel
set_option maxRecDepth 200000 in
theorem k_X4_58 : mmchk RX4 58 Lib.Math.min.name Lib.Math.min.code = true := by decide +kernel
set_option maxRecDepth 200000 in
theorem k_X4_64 : calchk RX4 64 3 2 yX2_lay cX2_lay 6 none = true := by decide +kernel
set_option maxRecDepth 200000 in
theorem k_X4_68 : calchk RX4 68 4 0 yX0_with cX0_with 5 (some .long) = true := by decide +kernel
set_option maxRecDepth 200000 in
theorem k_X4_43 : calchk RX4 43 5 0 yX4_grow cX4_grow 13 none = true := by decide +kernel
set_option maxRecDepth 200000 in
theorem k_X4_74 : calchk RX4 74 4 2 yX2_cutBack cX2_cutBack 5 none = true := by decide +kernel
def ct_X4_grow (N : Nat) (REC : Int64 → Int32 → Wd → Option Wd) : List (Nat × Cal) := [(48, 4, 4, .inr (.inr (a_X4_weigh N))), (58, 2, 0, .inl amin), (64, 3, 2, .inr (.inr (a_X2_lay N))), (68, 4, 0, .inr (.inl (a_X0_with N))), (43, 5, 0, .inr (.inr (aR_X4_grow REC))), (74, 4, 2, .inr (.inr (a_X2_cutBack N)))]
set_option maxRecDepth 200000 in
theorem md_X4_grow (N : Nat) (REC : Int64 → Int32 → Wd → Option Wd) (lv0 : Nat) (hlv : 14 ≤ lv0) (hREC : CTV lv0 yX4_grow cX4_grow 13 none (aR_X4_grow REC)) : MDOK T_X4_grow ft_X4 lt_X4 (ct_X4_grow N REC) cX4_grow RX4 (lv0 + 1) := ⟨tc_X4_grow, fc_X4, lc_X4, List.forall_mem_cons.mpr ⟨Or.inl ⟨yX4_weigh, cX4_weigh, 7, none, 4, k_X4_48, by omega, C_X4_weigh N⟩, List.forall_mem_cons.mpr ⟨Or.inr (Or.inr ⟨rfl, k_X4_58, by omega⟩), List.forall_mem_cons.mpr ⟨Or.inl ⟨yX2_lay, cX2_lay, 6, none, 14, k_X4_64, by omega, C_X2_lay N⟩, List.forall_mem_cons.mpr ⟨Or.inl ⟨yX0_with, cX0_with, 5, (some .long), 1, k_X4_68, by omega, C_X0_with N⟩, List.forall_mem_cons.mpr ⟨Or.inl ⟨yX4_grow, cX4_grow, 13, none, lv0, k_X4_43, Nat.le_refl _, hREC⟩, List.forall_mem_cons.mpr ⟨Or.inl ⟨yX2_cutBack, cX2_cutBack, 5, none, 1, k_X4_74, by omega, C_X2_cutBack N⟩, (fun _ z => absurd z List.not_mem_nil)⟩⟩⟩⟩⟩⟩⟩
set_option maxRecDepth 200000 in
theorem g_X4_grow_L90 (N : Nat) (REC : Int64 → Int32 → Wd → Option Wd) {lv : Nat} (M : MDOK T_X4_grow ft_X4 lt_X4 (ct_X4_grow N REC) cX4_grow RX4 lv) (KO141 : Int64 → Int32 → Int32 → Int32 → Int32 → Int32 → Int32 → Wd → Option Wd) (hKO141 : ∀ (x3 : Int64) (x5 : Int32) (x6 : Int32) (x7 : Int32) (x8 : Int32) (x9 : Int32) (x10 : Int32) (σ : Wd), GO cX4_grow RX4 13 lv sc0 nI0 nJ0 some (KO141 x3 x5 x6 x7 x8 x9 x10 σ) 141 (mkp 0 13 [(0, .ref 7), (1, .ref 4), (2, .ref 5), (3, .long x3), (5, .int x5), (6, .int x6), (7, .int x7), (8, .int x8), (9, .int x9), (10, .int x10)]) [] σ) : ∀ (n : Nat), ∀ (x3 : Int64) (x5 : Int32) (x6 : Int32) (x7 : Int32) (x8 : Int32) (x9 : Int32) (x10 : Int32) (x11 : Int32) (x12 : Int32) (σ : Wd), GO cX4_grow RX4 13 lv sc0 nI0 nJ0 some (f_X4_grow_L90 N REC KO141 n x3 x5 x6 x7 x8 x9 x10 x11 x12 σ) 90 (mkp 0 13 [(0, .ref 7), (1, .ref 4), (2, .ref 5), (3, .long x3), (5, .int x5), (6, .int x6), (7, .int x7), (8, .int x8), (9, .int x9), (10, .int x10), (11, .int x11), (12, .int x12)]) [] σ
  | 0, x3, x5, x6, x7, x8, x9, x10, x11, x12, σ => GO.none
  | n + 1, x3, x5, x6, x7, x8, x9, x10, x11, x12, σ => by
    exact (by refine GO.to M (kl := [(141, fun vs st σ => kS0 st (kA 0 7 vs (kA 1 4 vs (kA 2 5 vs (kJ 3 vs (fun x3 => kI 5 vs (fun x5 => kI 6 vs (fun x6 => kI 7 vs (fun x7 => kI 8 vs (fun x8 => kI 9 vs (fun x9 => kI 10 vs (fun x10 => KO141 x3 x5 x6 x7 x8 x9 x10 σ)))))))))))), (90, fun vs st σ => kS0 st (kA 0 7 vs (kA 1 4 vs (kA 2 5 vs (kJ 3 vs (fun x3 => kI 5 vs (fun x5 => kI 6 vs (fun x6 => kI 7 vs (fun x7 => kI 8 vs (fun x8 => kI 9 vs (fun x9 => kI 10 vs (fun x10 => kI 11 vs (fun x11 => kI 12 vs (fun x12 => f_X4_grow_L90 N REC KO141 n x3 x5 x6 x7 x8 x9 x10 x11 x12 σ))))))))))))))]) (List.forall_mem_cons.mpr ⟨fun vs st σ => go_kS0 (go_kA (fun h0 => go_kA (fun h1 => go_kA (fun h2 => go_kJ (fun x3 h3 => go_kI (fun x5 h5 => go_kI (fun x6 h6 => go_kI (fun x7 h7 => go_kI (fun x8 h8 => go_kI (fun x9 h9 => go_kI (fun x10 h10 => GO.pat [(0, .ref 7), (1, .ref 4), (2, .ref 5), (3, .long x3), (5, .int x5), (6, .int x6), (7, .int x7), (8, .int x8), (9, .int x9), (10, .int x10)] ⟨h0, h1, h2, h3, h5, h6, h7, h8, h9, h10, trivial⟩ (hKO141 x3 x5 x6 x7 x8 x9 x10 σ)))))))))))), List.forall_mem_cons.mpr ⟨fun vs st σ => go_kS0 (go_kA (fun h0 => go_kA (fun h1 => go_kA (fun h2 => go_kJ (fun x3 h3 => go_kI (fun x5 h5 => go_kI (fun x6 h6 => go_kI (fun x7 h7 => go_kI (fun x8 h8 => go_kI (fun x9 h9 => go_kI (fun x10 h10 => go_kI (fun x11 h11 => go_kI (fun x12 h12 => GO.pat [(0, .ref 7), (1, .ref 4), (2, .ref 5), (3, .long x3), (5, .int x5), (6, .int x6), (7, .int x7), (8, .int x8), (9, .int x9), (10, .int x10), (11, .int x11), (12, .int x12)] ⟨h0, h1, h2, h3, h5, h6, h7, h8, h9, h10, h11, h12, trivial⟩ (g_X4_grow_L90 N REC M KO141 hKO141 n x3 x5 x6 x7 x8 x9 x10 x11 x12 σ)))))))))))))), (fun _ z => absurd z List.not_mem_nil)⟩⟩) 83 ?_ ?_ <;> rfl)
set_option maxRecDepth 200000 in
theorem g_X4_grow_J141 (N : Nat) (REC : Int64 → Int32 → Wd → Option Wd) {lv : Nat} (M : MDOK T_X4_grow ft_X4 lt_X4 (ct_X4_grow N REC) cX4_grow RX4 lv) (KB : Int64 → Int32 → Int32 → Int32 → Int32 → Int32 → Int32 → Wd → Option Wd) (hKB : ∀ (x3 : Int64) (x5 : Int32) (x6 : Int32) (x7 : Int32) (x8 : Int32) (x9 : Int32) (x10 : Int32) (σ : Wd), GO cX4_grow RX4 13 lv sc0 nI0 nJ0 some (KB x3 x5 x6 x7 x8 x9 x10 σ) 60 (mkp 0 13 [(0, .ref 7), (1, .ref 4), (2, .ref 5), (3, .long x3), (5, .int x5), (6, .int x6), (7, .int x7), (8, .int x8), (9, .int x9), (10, .int x10)]) [] σ) (KO147 : Wd → Option Wd) (hKO147 : ∀ (σ : Wd), GO cX4_grow RX4 13 lv sc0 nI0 nJ0 some (KO147 σ) 147 (mkp 0 13 []) [] σ) (x3 : Int64) (x5 : Int32) (x6 : Int32) (x7 : Int32) (x8 : Int32) (x9 : Int32) (x10 : Int32) (σ : Wd) : GO cX4_grow RX4 13 lv sc0 nI0 nJ0 some (f_X4_grow_J141 N REC KB KO147 x3 x5 x6 x7 x8 x9 x10 σ) 141 (mkp 0 13 [(0, .ref 7), (1, .ref 4), (2, .ref 5), (3, .long x3), (5, .int x5), (6, .int x6), (7, .int x7), (8, .int x8), (9, .int x9), (10, .int x10)]) [] σ := by
  exact (by refine GO.to M (kl := [(60, fun vs st σ => kS0 st (kA 0 7 vs (kA 1 4 vs (kA 2 5 vs (kJ 3 vs (fun x3 => kI 5 vs (fun x5 => kI 6 vs (fun x6 => kI 7 vs (fun x7 => kI 8 vs (fun x8 => kI 9 vs (fun x9 => kI 10 vs (fun x10 => KB x3 x5 x6 x7 x8 x9 x10 σ))))))))))))]) (List.forall_mem_cons.mpr ⟨fun vs st σ => go_kS0 (go_kA (fun h0 => go_kA (fun h1 => go_kA (fun h2 => go_kJ (fun x3 h3 => go_kI (fun x5 h5 => go_kI (fun x6 h6 => go_kI (fun x7 h7 => go_kI (fun x8 h8 => go_kI (fun x9 h9 => go_kI (fun x10 h10 => GO.pat [(0, .ref 7), (1, .ref 4), (2, .ref 5), (3, .long x3), (5, .int x5), (6, .int x6), (7, .int x7), (8, .int x8), (9, .int x9), (10, .int x10)] ⟨h0, h1, h2, h3, h5, h6, h7, h8, h9, h10, trivial⟩ (hKB x3 x5 x6 x7 x8 x9 x10 σ)))))))))))), (fun _ z => absurd z List.not_mem_nil)⟩) 83 ?_ ?_ <;> rfl)
set_option maxRecDepth 200000 in
theorem g_X4_grow_L60 (N : Nat) (REC : Int64 → Int32 → Wd → Option Wd) {lv : Nat} (M : MDOK T_X4_grow ft_X4 lt_X4 (ct_X4_grow N REC) cX4_grow RX4 lv) (KO147 : Wd → Option Wd) (hKO147 : ∀ (σ : Wd), GO cX4_grow RX4 13 lv sc0 nI0 nJ0 some (KO147 σ) 147 (mkp 0 13 []) [] σ) : ∀ (n : Nat), ∀ (x3 : Int64) (x5 : Int32) (x6 : Int32) (x7 : Int32) (x8 : Int32) (x9 : Int32) (x10 : Int32) (σ : Wd), GO cX4_grow RX4 13 lv sc0 nI0 nJ0 some (f_X4_grow_L60 N REC KO147 n x3 x5 x6 x7 x8 x9 x10 σ) 60 (mkp 0 13 [(0, .ref 7), (1, .ref 4), (2, .ref 5), (3, .long x3), (5, .int x5), (6, .int x6), (7, .int x7), (8, .int x8), (9, .int x9), (10, .int x10)]) [] σ
  | 0, x3, x5, x6, x7, x8, x9, x10, σ => GO.none
  | n + 1, x3, x5, x6, x7, x8, x9, x10, σ => by
    exact (by refine GO.to M (kl := [(147, fun vs st σ => kS0 st (KO147 σ)), (90, fun vs st σ => kS0 st (kA 0 7 vs (kA 1 4 vs (kA 2 5 vs (kJ 3 vs (fun x3 => kI 5 vs (fun x5 => kI 6 vs (fun x6 => kI 7 vs (fun x7 => kI 8 vs (fun x8 => kI 9 vs (fun x9 => kI 10 vs (fun x10 => kI 11 vs (fun x11 => kI 12 vs (fun x12 => f_X4_grow_L90 N REC (f_X4_grow_J141 N REC (f_X4_grow_L60 N REC KO147 n) KO147) N x3 x5 x6 x7 x8 x9 x10 x11 x12 σ))))))))))))))]) (List.forall_mem_cons.mpr ⟨fun vs st σ => go_kS0 (GO.pat [] trivial (hKO147 σ)), List.forall_mem_cons.mpr ⟨fun vs st σ => go_kS0 (go_kA (fun h0 => go_kA (fun h1 => go_kA (fun h2 => go_kJ (fun x3 h3 => go_kI (fun x5 h5 => go_kI (fun x6 h6 => go_kI (fun x7 h7 => go_kI (fun x8 h8 => go_kI (fun x9 h9 => go_kI (fun x10 h10 => go_kI (fun x11 h11 => go_kI (fun x12 h12 => GO.pat [(0, .ref 7), (1, .ref 4), (2, .ref 5), (3, .long x3), (5, .int x5), (6, .int x6), (7, .int x7), (8, .int x8), (9, .int x9), (10, .int x10), (11, .int x11), (12, .int x12)] ⟨h0, h1, h2, h3, h5, h6, h7, h8, h9, h10, h11, h12, trivial⟩ (g_X4_grow_L90 N REC M (f_X4_grow_J141 N REC (f_X4_grow_L60 N REC KO147 n) KO147) (g_X4_grow_J141 N REC M (f_X4_grow_L60 N REC KO147 n) (g_X4_grow_L60 N REC M KO147 hKO147 n) KO147 hKO147) N x3 x5 x6 x7 x8 x9 x10 x11 x12 σ)))))))))))))), (fun _ z => absurd z List.not_mem_nil)⟩⟩) 83 ?_ ?_ <;> rfl)
set_option maxRecDepth 200000 in
theorem g_X4_grow_J147 (N : Nat) (REC : Int64 → Int32 → Wd → Option Wd) {lv : Nat} (M : MDOK T_X4_grow ft_X4 lt_X4 (ct_X4_grow N REC) cX4_grow RX4 lv) (σ : Wd) : GO cX4_grow RX4 13 lv sc0 nI0 nJ0 some (f_X4_grow_J147 N REC σ) 147 (mkp 0 13 []) [] σ := by
  exact (by refine GO.to M (kl := []) ((fun _ z => absurd z List.not_mem_nil)) 83 ?_ ?_ <;> rfl)
set_option maxRecDepth 200000 in
theorem C_X4_grow (N : Nat) : ∀ d : Nat, CTV (15 + d) yX4_grow cX4_grow 13 none (a_X4_grow N d)
  | 0 => by
    refine CTV.of (own := RX4) (by decide) rfl (fun as σ r h => ?_)
    unfold a_X4_grow aR_X4_grow at h
    rcases kSE_s h with ⟨r0, rfl, h0⟩ | hn
    ·
      rcases kSE_s h0 with ⟨r1, rfl, h1⟩ | h0n
      ·
        rcases kSE_s h1 with ⟨r2, rfl, h2⟩ | h1n
        ·
          obtain ⟨b3, r3, rfl, h3⟩ := kSJ_s h2
          obtain ⟨b4, r4, rfl, h4⟩ := kSI_s h3
          obtain ⟨rfl, h9⟩ := kS0_s h4
          exact ⟨Nat.le_of_ble_eq_true rfl, GO.none⟩
        cases h1n
      cases h0n
    cases hn
  | d + 1 => by
    refine CTV.of (own := RX4) (by decide) rfl (fun as σ r h => ?_)
    unfold a_X4_grow aR_X4_grow at h
    rcases kSE_s h with ⟨r0, rfl, h0⟩ | hn
    ·
      rcases kSE_s h0 with ⟨r1, rfl, h1⟩ | h0n
      ·
        rcases kSE_s h1 with ⟨r2, rfl, h2⟩ | h1n
        ·
          obtain ⟨b3, r3, rfl, h3⟩ := kSJ_s h2
          obtain ⟨b4, r4, rfl, h4⟩ := kSI_s h3
          obtain ⟨rfl, h9⟩ := kS0_s h4
          exact ⟨Nat.le_of_ble_eq_true rfl, by refine GO.to (md_X4_grow N (f_X4_grow N d) (15 + d) (by omega) (C_X4_grow N d)) (kl := [(60, fun vs st σ => kS0 st (kA 0 7 vs (kA 1 4 vs (kA 2 5 vs (kJ 3 vs (fun x3 => kI 5 vs (fun x5 => kI 6 vs (fun x6 => kI 7 vs (fun x7 => kI 8 vs (fun x8 => kI 9 vs (fun x9 => kI 10 vs (fun x10 => f_X4_grow_L60 N (f_X4_grow N d) (f_X4_grow_J147 N (f_X4_grow N d)) N x3 x5 x6 x7 x8 x9 x10 σ))))))))))))]) (List.forall_mem_cons.mpr ⟨fun vs st σ => go_kS0 (go_kA (fun h0 => go_kA (fun h1 => go_kA (fun h2 => go_kJ (fun x3 h3 => go_kI (fun x5 h5 => go_kI (fun x6 h6 => go_kI (fun x7 h7 => go_kI (fun x8 h8 => go_kI (fun x9 h9 => go_kI (fun x10 h10 => GO.pat [(0, .ref 7), (1, .ref 4), (2, .ref 5), (3, .long x3), (5, .int x5), (6, .int x6), (7, .int x7), (8, .int x8), (9, .int x9), (10, .int x10)] ⟨h0, h1, h2, h3, h5, h6, h7, h8, h9, h10, trivial⟩ (g_X4_grow_L60 N (f_X4_grow N d) (md_X4_grow N (f_X4_grow N d) (15 + d) (by omega) (C_X4_grow N d)) (f_X4_grow_J147 N (f_X4_grow N d)) (g_X4_grow_J147 N (f_X4_grow N d) (md_X4_grow N (f_X4_grow N d) (15 + d) (by omega) (C_X4_grow N d))) N x3 x5 x6 x7 x8 x9 x10 σ)))))))))))), (fun _ z => absurd z List.not_mem_nil)⟩) 83 ?_ ?_ <;> rfl⟩
        cases h1n
      cases h0n
    cases hn
def T_X4_run : List (Nat × Ent) := [(0, .aload_n 0, 1, []), (1, .getfield 9, 4, []), (4, .ifCond .eq 30, 7, [34]), (7, .aload_n 0, 8, []), (8, .getfield 15, 11, []), (11, .iload_n 3, 12, []), (12, .if_icmp .ne 22, 15, [34]), (15, .aload_n 0, 16, []), (16, .getfield 19, 19, []), (19, .iload 4, 21, []), (21, .if_icmp .ne 13, 24, [34]), (24, .aload_n 0, 25, []), (25, .getfield 22, 28, []), (28, .iload 5, 30, []), (30, .if_icmp .ne 4, 33, [34]), (33, .return_, 34, []), (34, .aload_n 0, 35, []), (35, .iload_n 3, 36, []), (36, .putfield 15, 39, []), (39, .aload_n 0, 40, []), (40, .iload 4, 42, []), (42, .putfield 19, 45, []), (45, .aload_n 0, 46, []), (46, .iload 5, 48, []), (48, .putfield 22, 51, []), (51, .aload_n 0, 52, []), (52, .iconst 0, 53, []), (53, .putfield 25, 56, []), (56, .aload_n 0, 57, []), (57, .iconst 0, 58, []), (58, .putfield 28, 61, []), (61, .aload_n 0, 62, []), (62, .iconst 0, 63, []), (63, .putfield 31, 66, []), (66, .aload_n 0, 67, []), (67, .lconst 0, 68, []), (68, .putfield 34, 71, []), (71, .aload_n 1, 72, []), (72, .invokevirtual 38, 75, []), (75, .aload_n 0, 76, []), (76, .aload_n 1, 77, []), (77, .aload_n 2, 78, []), (78, .lconst 0, 79, []), (79, .iconst 0, 80, []), (80, .invokestatic 43, 83, []), (83, .aload_n 0, 84, []), (84, .iconst 1, 85, []), (85, .putfield 9, 88, []), (88, .return_, 89, [])]
set_option maxRecDepth 200000 in
theorem tc_X4_run : T_X4_run.all (chk cX4_run) = true := by decide +kernel
def f_X4_run_J34 (N : Nat) (x3 : Int32) (x4 : Int32) (x5 : Int32) (σ : Wd) : Option Wd :=
  let σ1 : Wd := sF σ 7 5 x3
  let σ2 : Wd := sF σ1 7 6 x4
  let σ3 : Wd := sF σ2 7 7 x5
  let σ4 : Wd := sF σ3 7 1 0
  let σ5 : Wd := sF σ4 7 2 0
  let σ6 : Wd := sF σ5 7 3 0
  let σ7 : Wd := sG σ6 7 4 0
  (f_X2_clear N σ7).bind fun σ8 => (f_X4_grow N 9 0 0 σ8).bind fun σ9 => let σ10 : Wd := sF σ9 7 0 1
  some σ10
def f_X4_run (N : Nat) (a3 : Int32) (a4 : Int32) (a5 : Int32) (σ : Wd) : Option Wd :=
  if (σ.1 7 0) = 0 then (f_X4_run_J34 N a3 a4 a5 σ) else (if (σ.1 7 5) = a3 then (if (σ.1 7 6) = a4 then (if (σ.1 7 7) = a5 then (some σ) else (f_X4_run_J34 N a3 a4 a5 σ)) else (f_X4_run_J34 N a3 a4 a5 σ)) else (f_X4_run_J34 N a3 a4 a5 σ))
def a_X4_run (N : Nat) : List Value → Wd → Option Wd := fun as σ => kSE 7 as (fun r0 => kSE 4 r0 (fun r1 => kSE 5 r1 (fun r2 => kSI r2 (fun b3 r3 => kSI r3 (fun b4 r4 => kSI r4 (fun b5 r5 => kS0 r5 (f_X4_run N b3 b4 b5 σ))))) (none)) (none)) (none)
set_option maxRecDepth 200000 in
theorem k_X4_38 : calchk RX4 38 1 2 yX2_clear cX2_clear 2 none = true := by decide +kernel
def ct_X4_run (N : Nat) : List (Nat × Cal) := [(38, 1, 2, .inr (.inr (a_X2_clear N))), (43, 5, 0, .inr (.inr (a_X4_grow N 9)))]
set_option maxRecDepth 200000 in
theorem md_X4_run (N : Nat) : MDOK T_X4_run ft_X4 lt_X4 (ct_X4_run N) cX4_run RX4 25 := ⟨tc_X4_run, fc_X4, lc_X4, List.forall_mem_cons.mpr ⟨Or.inl ⟨yX2_clear, cX2_clear, 2, none, 1, k_X4_38, Nat.le_of_ble_eq_true rfl, C_X2_clear N⟩, List.forall_mem_cons.mpr ⟨Or.inl ⟨yX4_grow, cX4_grow, 13, none, 24, k_X4_43, Nat.le_of_ble_eq_true rfl, C_X4_grow N 9⟩, (fun _ z => absurd z List.not_mem_nil)⟩⟩⟩
set_option maxRecDepth 200000 in
theorem g_X4_run_J34 (N : Nat) (x3 : Int32) (x4 : Int32) (x5 : Int32) (σ : Wd) : GO cX4_run RX4 6 25 sc0 nI0 nJ0 some (f_X4_run_J34 N x3 x4 x5 σ) 34 (mkp 0 6 [(0, .ref 7), (1, .ref 4), (2, .ref 5), (3, .int x3), (4, .int x4), (5, .int x5)]) [] σ := by
  exact (by refine GO.to (md_X4_run N) (kl := []) ((fun _ z => absurd z List.not_mem_nil)) 54 ?_ ?_ <;> rfl)
set_option maxRecDepth 200000 in
theorem C_X4_run (N : Nat) : CTV 25 yX4_run cX4_run 6 none (a_X4_run N) := by
  refine CTV.of (own := RX4) (by decide) rfl (fun as σ r h => ?_)
  unfold a_X4_run at h
  rcases kSE_s h with ⟨r0, rfl, h0⟩ | hn
  ·
    rcases kSE_s h0 with ⟨r1, rfl, h1⟩ | h0n
    ·
      rcases kSE_s h1 with ⟨r2, rfl, h2⟩ | h1n
      ·
        obtain ⟨b3, r3, rfl, h3⟩ := kSI_s h2
        obtain ⟨b4, r4, rfl, h4⟩ := kSI_s h3
        obtain ⟨b5, r5, rfl, h5⟩ := kSI_s h4
        obtain ⟨rfl, h9⟩ := kS0_s h5
        exact ⟨Nat.le_of_ble_eq_true rfl, by refine GO.to (md_X4_run N) (kl := [(34, fun vs st σ => kS0 st (kA 0 7 vs (kA 1 4 vs (kA 2 5 vs (kI 3 vs (fun x3 => kI 4 vs (fun x4 => kI 5 vs (fun x5 => f_X4_run_J34 N x3 x4 x5 σ))))))))]) (List.forall_mem_cons.mpr ⟨fun vs st σ => go_kS0 (go_kA (fun h0 => go_kA (fun h1 => go_kA (fun h2 => go_kI (fun x3 h3 => go_kI (fun x4 h4 => go_kI (fun x5 h5 => GO.pat [(0, .ref 7), (1, .ref 4), (2, .ref 5), (3, .int x3), (4, .int x4), (5, .int x5)] ⟨h0, h1, h2, h3, h4, h5, trivial⟩ (g_X4_run_J34 N x3 x4 x5 σ)))))))), (fun _ z => absurd z List.not_mem_nil)⟩) 54 ?_ ?_ <;> rfl⟩
      cases h1n
    cases h0n
  cases hn
