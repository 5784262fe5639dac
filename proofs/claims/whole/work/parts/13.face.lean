def ft_X9 : List (Nat × FTE) := [(12, 8, 0, 3), (21, 8, 1, 3), (28, 8, 2, 3), (35, 8, 3, 3), (42, 8, 4, 3), (49, 8, 5, 3), (56, 8, 6, 3), (62, 8, 7, 3), (67, 8, 8, 3), (75, 6, 1, 0), (90, 6, 2, 1), (111, 2, 2, 0), (114, 2, 1, 3), (132, 2, 0, 3), (136, 7, 0, 3), (146, 7, 1, 3), (223, 3, 1, 0), (226, 3, 2, 0), (229, 3, 3, 0), (232, 3, 4, 1), (248, 4, 1, 0), (254, 4, 3, 1), (267, 4, 2, 0), (270, 4, 0, 3), (273, 1, 6, 0), (281, 0, 1, 0), (291, 5, 0, 2), (295, 3, 0, 2)]
def lt_X9 : List (Nat × Int64) := [(241, -9223372036854775808), (243, 2)]
theorem fc_X9 : ft_X9.all (fun e => fldchk RX9 e && shchk e) = true := by decide +kernel
theorem lc_X9 : lt_X9.all (ltchk RX9) = true := by decide +kernel
def T_X9_runs : List (Nat × Ent) := [(0, .iload_n 1, 1, []), (1, .iconst 1, 2, []), (2, .if_icmp .lt 19, 5, [21]), (5, .iload_n 1, 6, []), (6, .bipush 12, 8, []), (8, .if_icmp .gt 13, 11, [21]), (11, .iload_n 2, 12, []), (12, .ifCond .lt 9, 15, [21]), (15, .iload_n 2, 16, []), (16, .bipush 12, 18, []), (18, .if_icmp .le 7, 21, [25]), (21, .ldc2_w 241, 24, []), (24, .lreturn, 25, []), (25, .lconst 1, 26, []), (26, .lstore_n 3, 27, []), (27, .iconst 0, 28, []), (28, .istore 5, 30, []), (30, .iload 5, 32, []), (32, .iload_n 2, 33, []), (33, .if_icmp .gt 17, 36, [50]), (36, .aload_n 0, 37, []), (37, .getfield 67, 40, []), (40, .iload 5, 42, []), (42, .lconst 0, 43, []), (43, .lastore, 44, []), (44, .iinc 5 1, 47, []), (47, .goto (-17), 50, [30]), (50, .iconst 0, 51, []), (51, .istore 5, 53, []), (53, .iload 5, 55, []), (55, .iload_n 1, 56, []), (56, .if_icmp .ge 90, 59, [146]), (59, .lload_n 3, 60, []), (60, .lstore 6, 62, []), (62, .iconst 0, 63, []), (63, .istore 8, 65, []), (65, .iload 8, 67, []), (67, .iload_n 2, 68, []), (68, .if_icmp .gt 21, 71, [89]), (71, .lload 6, 73, []), (73, .aload_n 0, 74, []), (74, .getfield 67, 77, []), (77, .iload 8, 79, []), (79, .laload, 80, []), (80, .ladd, 81, []), (81, .lstore 6, 83, []), (83, .iinc 8 1, 86, []), (86, .goto (-21), 89, [65]), (89, .iload_n 2, 90, []), (90, .istore 8, 92, []), (92, .iload 8, 94, []), (94, .ifCond .le 29, 97, [123]), (97, .aload_n 0, 98, []), (98, .getfield 67, 101, []), (101, .iload 8, 103, []), (103, .ldc2_w 243, 106, []), (106, .aload_n 0, 107, []), (107, .getfield 67, 110, []), (110, .iload 8, 112, []), (112, .iconst 1, 113, []), (113, .isub, 114, []), (114, .laload, 115, []), (115, .lmul, 116, []), (116, .lastore, 117, []), (117, .iinc 8 (-1), 120, []), (120, .goto (-28), 123, [92]), (123, .aload_n 0, 124, []), (124, .getfield 67, 127, []), (127, .iconst 0, 128, []), (128, .lload 6, 130, []), (130, .lastore, 131, []), (131, .lload 6, 133, []), (133, .ldc2_w 243, 136, []), (136, .lload_n 3, 137, []), (137, .lmul, 138, []), (138, .ladd, 139, []), (139, .lstore_n 3, 140, []), (140, .iinc 5 1, 143, []), (143, .goto (-90), 146, [53]), (146, .lload_n 3, 147, []), (147, .lstore 5, 149, []), (149, .iconst 0, 150, []), (150, .istore 7, 152, []), (152, .iload 7, 154, []), (154, .iload_n 2, 155, []), (155, .if_icmp .gt 21, 158, [176]), (158, .lload 5, 160, []), (160, .aload_n 0, 161, []), (161, .getfield 67, 164, []), (164, .iload 7, 166, []), (166, .laload, 167, []), (167, .ladd, 168, []), (168, .lstore 5, 170, []), (170, .iinc 7 1, 173, []), (173, .goto (-21), 176, [152]), (176, .lload 5, 178, []), (178, .lreturn, 179, [])]
set_option maxRecDepth 200000 in
theorem tc_X9_runs : T_X9_runs.all (chk cX9_runs) = true := by decide +kernel
def f_X9_runs_L30 (N : Nat) (KO50 : Int32 → Int32 → Int64 → Wd → Option (Int64 × Wd)) : Nat → Int32 → Int32 → Int64 → Int32 → Wd → Option (Int64 × Wd)
  | 0, _, _, _, _, _ => none
  | n + 1, x1, x2, x3, x5, σ => if x2 < x5 then (KO50 x1 x2 x3 σ) else ((xstL σ 13 13 x5 0).bind fun σ1 => f_X9_runs_L30 N KO50 n x1 x2 x3 (x5 + 1) σ1)
def f_X9_runs_L65 (N : Nat) (KO89 : Int32 → Int32 → Int64 → Int32 → Int64 → Wd → Option (Int64 × Wd)) : Nat → Int32 → Int32 → Int64 → Int32 → Int64 → Int32 → Wd → Option (Int64 × Wd)
  | 0, _, _, _, _, _, _, _ => none
  | n + 1, x1, x2, x3, x5, x6, x8, σ => if x2 < x8 then (KO89 x1 x2 x3 x5 x6 σ) else ((xldL σ 13 13 x8).bind fun v2 => f_X9_runs_L65 N KO89 n x1 x2 x3 x5 (x6 + v2) (x8 + 1) σ)
def f_X9_runs_L92 (N : Nat) (KO123 : Int32 → Int32 → Int64 → Int32 → Int64 → Wd → Option (Int64 × Wd)) : Nat → Int32 → Int32 → Int64 → Int32 → Int64 → Int32 → Wd → Option (Int64 × Wd)
  | 0, _, _, _, _, _, _, _ => none
  | n + 1, x1, x2, x3, x5, x6, x8, σ => if x8 ≤ 0 then (KO123 x1 x2 x3 x5 x6 σ) else ((xldL σ 13 13 (x8 - 1)).bind fun v3 => (xstL σ 13 13 x8 (2 * v3)).bind fun σ4 => f_X9_runs_L92 N KO123 n x1 x2 x3 x5 x6 (x8 + (-1)) σ4)
def f_X9_runs_J123 (N : Nat) (KB : Int32 → Int32 → Int64 → Int32 → Wd → Option (Int64 × Wd)) (KO146 : Int32 → Int64 → Wd → Option (Int64 × Wd)) (x1 : Int32) (x2 : Int32) (x3 : Int64) (x5 : Int32) (x6 : Int64) (σ : Wd) : Option (Int64 × Wd) :=
  (xstL σ 13 13 0 x6).bind fun σ5 => KB x1 x2 (x6 + (2 * x3)) (x5 + 1) σ5
def f_X9_runs_J89 (N : Nat) (KB : Int32 → Int32 → Int64 → Int32 → Wd → Option (Int64 × Wd)) (KO146 : Int32 → Int64 → Wd → Option (Int64 × Wd)) (x1 : Int32) (x2 : Int32) (x3 : Int64) (x5 : Int32) (x6 : Int64) (σ : Wd) : Option (Int64 × Wd) :=
  f_X9_runs_L92 N (f_X9_runs_J123 N KB KO146) N x1 x2 x3 x5 x6 x2 σ
def f_X9_runs_L53 (N : Nat) (KO146 : Int32 → Int64 → Wd → Option (Int64 × Wd)) : Nat → Int32 → Int32 → Int64 → Int32 → Wd → Option (Int64 × Wd)
  | 0, _, _, _, _, _ => none
  | n + 1, x1, x2, x3, x5, σ => if x1 ≤ x5 then (KO146 x2 x3 σ) else (f_X9_runs_L65 N (f_X9_runs_J89 N (f_X9_runs_L53 N KO146 n) KO146) N x1 x2 x3 x5 x3 0 σ)
def f_X9_runs_L152 (N : Nat) (KO176 : Int64 → Wd → Option (Int64 × Wd)) : Nat → Int32 → Int64 → Int32 → Wd → Option (Int64 × Wd)
  | 0, _, _, _, _ => none
  | n + 1, x2, x5, x7, σ => if x2 < x7 then (KO176 x5 σ) else ((xldL σ 13 13 x7).bind fun v6 => f_X9_runs_L152 N KO176 n x2 (x5 + v6) (x7 + 1) σ)
def f_X9_runs_J176 (N : Nat) (x5 : Int64) (σ : Wd) : Option (Int64 × Wd) :=
  some (x5, σ)
def f_X9_runs_J146 (N : Nat) (x2 : Int32) (x3 : Int64) (σ : Wd) : Option (Int64 × Wd) :=
  f_X9_runs_L152 N (f_X9_runs_J176 N) N x2 x3 0 σ
def f_X9_runs_J50 (N : Nat) (x1 : Int32) (x2 : Int32) (x3 : Int64) (σ : Wd) : Option (Int64 × Wd) :=
  f_X9_runs_L53 N (f_X9_runs_J146 N) N x1 x2 x3 0 σ
def f_X9_runs (N : Nat) (a1 : Int32) (a2 : Int32) (σ : Wd) : Option (Int64 × Wd) :=
  if a1 < 1 then (some ((-9223372036854775808), σ)) else (if 12 < a1 then (some ((-9223372036854775808), σ)) else (if a2 < 0 then (some ((-9223372036854775808), σ)) else (if a2 ≤ 12 then (f_X9_runs_L30 N (f_X9_runs_J50 N) N a1 a2 1 0 σ) else (some ((-9223372036854775808), σ)))))
def a_X9_runs (N : Nat) : List Value → Wd → Option (Int64 × Wd) := fun as σ => kSE 0 as (fun r0 => kSI r0 (fun b1 r1 => kSI r1 (fun b2 r2 => kS0 r2 (f_X9_runs N b1 b2 σ)))) (none)
def ct_X9_runs (N : Nat) : List (Nat × Cal) := []
set_option maxRecDepth 200000 in
theorem md_X9_runs (N : Nat) : MDOK T_X9_runs ft_X9 lt_X9 (ct_X9_runs N) cX9_runs RX9 1 := ⟨tc_X9_runs, fc_X9, lc_X9, (fun _ z => absurd z List.not_mem_nil)⟩
set_option maxRecDepth 200000 in
theorem g_X9_runs_L30 (N : Nat) (KO50 : Int32 → Int32 → Int64 → Wd → Option (Int64 × Wd)) (hKO50 : ∀ (x1 : Int32) (x2 : Int32) (x3 : Int64) (σ : Wd), GO cX9_runs RX9 9 1 sc0 nI0 rJ nV0 (KO50 x1 x2 x3 σ) 50 (mkp 0 9 [(0, .ref 0), (1, .int x1), (2, .int x2), (3, .long x3)]) [] σ) : ∀ (n : Nat), ∀ (x1 : Int32) (x2 : Int32) (x3 : Int64) (x5 : Int32) (σ : Wd), GO cX9_runs RX9 9 1 sc0 nI0 rJ nV0 (f_X9_runs_L30 N KO50 n x1 x2 x3 x5 σ) 30 (mkp 0 9 [(0, .ref 0), (1, .int x1), (2, .int x2), (3, .long x3), (5, .int x5)]) [] σ
  | 0, x1, x2, x3, x5, σ => GO.none
  | n + 1, x1, x2, x3, x5, σ => by
    exact (by refine GO.to (md_X9_runs N) (kl := [(50, fun vs st σ => kS0 st (kA 0 0 vs (kI 1 vs (fun x1 => kI 2 vs (fun x2 => kJ 3 vs (fun x3 => KO50 x1 x2 x3 σ)))))), (30, fun vs st σ => kS0 st (kA 0 0 vs (kI 1 vs (fun x1 => kI 2 vs (fun x2 => kJ 3 vs (fun x3 => kI 5 vs (fun x5 => f_X9_runs_L30 N KO50 n x1 x2 x3 x5 σ)))))))]) (List.forall_mem_cons.mpr ⟨fun vs st σ => go_kS0 (go_kA (fun h0 => go_kI (fun x1 h1 => go_kI (fun x2 h2 => go_kJ (fun x3 h3 => GO.pat [(0, .ref 0), (1, .int x1), (2, .int x2), (3, .long x3)] ⟨h0, h1, h2, h3, trivial⟩ (hKO50 x1 x2 x3 σ)))))), List.forall_mem_cons.mpr ⟨fun vs st σ => go_kS0 (go_kA (fun h0 => go_kI (fun x1 h1 => go_kI (fun x2 h2 => go_kJ (fun x3 h3 => go_kI (fun x5 h5 => GO.pat [(0, .ref 0), (1, .int x1), (2, .int x2), (3, .long x3), (5, .int x5)] ⟨h0, h1, h2, h3, h5, trivial⟩ (g_X9_runs_L30 N KO50 hKO50 n x1 x2 x3 x5 σ))))))), (fun _ z => absurd z List.not_mem_nil)⟩⟩) 102 ?_ ?_ <;> rfl)
set_option maxRecDepth 200000 in
theorem g_X9_runs_L65 (N : Nat) (KO89 : Int32 → Int32 → Int64 → Int32 → Int64 → Wd → Option (Int64 × Wd)) (hKO89 : ∀ (x1 : Int32) (x2 : Int32) (x3 : Int64) (x5 : Int32) (x6 : Int64) (σ : Wd), GO cX9_runs RX9 9 1 sc0 nI0 rJ nV0 (KO89 x1 x2 x3 x5 x6 σ) 89 (mkp 0 9 [(0, .ref 0), (1, .int x1), (2, .int x2), (3, .long x3), (5, .int x5), (6, .long x6)]) [] σ) : ∀ (n : Nat), ∀ (x1 : Int32) (x2 : Int32) (x3 : Int64) (x5 : Int32) (x6 : Int64) (x8 : Int32) (σ : Wd), GO cX9_runs RX9 9 1 sc0 nI0 rJ nV0 (f_X9_runs_L65 N KO89 n x1 x2 x3 x5 x6 x8 σ) 65 (mkp 0 9 [(0, .ref 0), (1, .int x1), (2, .int x2), (3, .long x3), (5, .int x5), (6, .long x6), (8, .int x8)]) [] σ
  | 0, x1, x2, x3, x5, x6, x8, σ => GO.none
  | n + 1, x1, x2, x3, x5, x6, x8, σ => by
    exact (by refine GO.to (md_X9_runs N) (kl := [(89, fun vs st σ => kS0 st (kA 0 0 vs (kI 1 vs (fun x1 => kI 2 vs (fun x2 => kJ 3 vs (fun x3 => kI 5 vs (fun x5 => kJ 6 vs (fun x6 => KO89 x1 x2 x3 x5 x6 σ)))))))), (65, fun vs st σ => kS0 st (kA 0 0 vs (kI 1 vs (fun x1 => kI 2 vs (fun x2 => kJ 3 vs (fun x3 => kI 5 vs (fun x5 => kJ 6 vs (fun x6 => kI 8 vs (fun x8 => f_X9_runs_L65 N KO89 n x1 x2 x3 x5 x6 x8 σ)))))))))]) (List.forall_mem_cons.mpr ⟨fun vs st σ => go_kS0 (go_kA (fun h0 => go_kI (fun x1 h1 => go_kI (fun x2 h2 => go_kJ (fun x3 h3 => go_kI (fun x5 h5 => go_kJ (fun x6 h6 => GO.pat [(0, .ref 0), (1, .int x1), (2, .int x2), (3, .long x3), (5, .int x5), (6, .long x6)] ⟨h0, h1, h2, h3, h5, h6, trivial⟩ (hKO89 x1 x2 x3 x5 x6 σ)))))))), List.forall_mem_cons.mpr ⟨fun vs st σ => go_kS0 (go_kA (fun h0 => go_kI (fun x1 h1 => go_kI (fun x2 h2 => go_kJ (fun x3 h3 => go_kI (fun x5 h5 => go_kJ (fun x6 h6 => go_kI (fun x8 h8 => GO.pat [(0, .ref 0), (1, .int x1), (2, .int x2), (3, .long x3), (5, .int x5), (6, .long x6), (8, .int x8)] ⟨h0, h1, h2, h3, h5, h6, h8, trivial⟩ (g_X9_runs_L65 N KO89 hKO89 n x1 x2 x3 x5 x6 x8 σ))))))))), (fun _ z => absurd z List.not_mem_nil)⟩⟩) 102 ?_ ?_ <;> rfl)
set_option maxRecDepth 200000 in
theorem g_X9_runs_L92 (N : Nat) (KO123 : Int32 → Int32 → Int64 → Int32 → Int64 → Wd → Option (Int64 × Wd)) (hKO123 : ∀ (x1 : Int32) (x2 : Int32) (x3 : Int64) (x5 : Int32) (x6 : Int64) (σ : Wd), GO cX9_runs RX9 9 1 sc0 nI0 rJ nV0 (KO123 x1 x2 x3 x5 x6 σ) 123 (mkp 0 9 [(0, .ref 0), (1, .int x1), (2, .int x2), (3, .long x3), (5, .int x5), (6, .long x6)]) [] σ) : ∀ (n : Nat), ∀ (x1 : Int32) (x2 : Int32) (x3 : Int64) (x5 : Int32) (x6 : Int64) (x8 : Int32) (σ : Wd), GO cX9_runs RX9 9 1 sc0 nI0 rJ nV0 (f_X9_runs_L92 N KO123 n x1 x2 x3 x5 x6 x8 σ) 92 (mkp 0 9 [(0, .ref 0), (1, .int x1), (2, .int x2), (3, .long x3), (5, .int x5), (6, .long x6), (8, .int x8)]) [] σ
  | 0, x1, x2, x3, x5, x6, x8, σ => GO.none
  | n + 1, x1, x2, x3, x5, x6, x8, σ => by
    exact (by refine GO.to (md_X9_runs N) (kl := [(123, fun vs st σ => kS0 st (kA 0 0 vs (kI 1 vs (fun x1 => kI 2 vs (fun x2 => kJ 3 vs (fun x3 => kI 5 vs (fun x5 => kJ 6 vs (fun x6 => KO123 x1 x2 x3 x5 x6 σ)))))))), (92, fun vs st σ => kS0 st (kA 0 0 vs (kI 1 vs (fun x1 => kI 2 vs (fun x2 => kJ 3 vs (fun x3 => kI 5 vs (fun x5 => kJ 6 vs (fun x6 => kI 8 vs (fun x8 => f_X9_runs_L92 N KO123 n x1 x2 x3 x5 x6 x8 σ)))))))))]) (List.forall_mem_cons.mpr ⟨fun vs st σ => go_kS0 (go_kA (fun h0 => go_kI (fun x1 h1 => go_kI (fun x2 h2 => go_kJ (fun x3 h3 => go_kI (fun x5 h5 => go_kJ (fun x6 h6 => GO.pat [(0, .ref 0), (1, .int x1), (2, .int x2), (3, .long x3), (5, .int x5), (6, .long x6)] ⟨h0, h1, h2, h3, h5, h6, trivial⟩ (hKO123 x1 x2 x3 x5 x6 σ)))))))), List.forall_mem_cons.mpr ⟨fun vs st σ => go_kS0 (go_kA (fun h0 => go_kI (fun x1 h1 => go_kI (fun x2 h2 => go_kJ (fun x3 h3 => go_kI (fun x5 h5 => go_kJ (fun x6 h6 => go_kI (fun x8 h8 => GO.pat [(0, .ref 0), (1, .int x1), (2, .int x2), (3, .long x3), (5, .int x5), (6, .long x6), (8, .int x8)] ⟨h0, h1, h2, h3, h5, h6, h8, trivial⟩ (g_X9_runs_L92 N KO123 hKO123 n x1 x2 x3 x5 x6 x8 σ))))))))), (fun _ z => absurd z List.not_mem_nil)⟩⟩) 102 ?_ ?_ <;> rfl)
set_option maxRecDepth 200000 in
theorem g_X9_runs_J123 (N : Nat) (KB : Int32 → Int32 → Int64 → Int32 → Wd → Option (Int64 × Wd)) (hKB : ∀ (x1 : Int32) (x2 : Int32) (x3 : Int64) (x5 : Int32) (σ : Wd), GO cX9_runs RX9 9 1 sc0 nI0 rJ nV0 (KB x1 x2 x3 x5 σ) 53 (mkp 0 9 [(0, .ref 0), (1, .int x1), (2, .int x2), (3, .long x3), (5, .int x5)]) [] σ) (KO146 : Int32 → Int64 → Wd → Option (Int64 × Wd)) (hKO146 : ∀ (x2 : Int32) (x3 : Int64) (σ : Wd), GO cX9_runs RX9 9 1 sc0 nI0 rJ nV0 (KO146 x2 x3 σ) 146 (mkp 0 9 [(0, .ref 0), (2, .int x2), (3, .long x3)]) [] σ) (x1 : Int32) (x2 : Int32) (x3 : Int64) (x5 : Int32) (x6 : Int64) (σ : Wd) : GO cX9_runs RX9 9 1 sc0 nI0 rJ nV0 (f_X9_runs_J123 N KB KO146 x1 x2 x3 x5 x6 σ) 123 (mkp 0 9 [(0, .ref 0), (1, .int x1), (2, .int x2), (3, .long x3), (5, .int x5), (6, .long x6)]) [] σ := by
  exact (by refine GO.to (md_X9_runs N) (kl := [(53, fun vs st σ => kS0 st (kA 0 0 vs (kI 1 vs (fun x1 => kI 2 vs (fun x2 => kJ 3 vs (fun x3 => kI 5 vs (fun x5 => KB x1 x2 x3 x5 σ)))))))]) (List.forall_mem_cons.mpr ⟨fun vs st σ => go_kS0 (go_kA (fun h0 => go_kI (fun x1 h1 => go_kI (fun x2 h2 => go_kJ (fun x3 h3 => go_kI (fun x5 h5 => GO.pat [(0, .ref 0), (1, .int x1), (2, .int x2), (3, .long x3), (5, .int x5)] ⟨h0, h1, h2, h3, h5, trivial⟩ (hKB x1 x2 x3 x5 σ))))))), (fun _ z => absurd z List.not_mem_nil)⟩) 102 ?_ ?_ <;> rfl)
set_option maxRecDepth 200000 in
theorem g_X9_runs_J89 (N : Nat) (KB : Int32 → Int32 → Int64 → Int32 → Wd → Option (Int64 × Wd)) (hKB : ∀ (x1 : Int32) (x2 : Int32) (x3 : Int64) (x5 : Int32) (σ : Wd), GO cX9_runs RX9 9 1 sc0 nI0 rJ nV0 (KB x1 x2 x3 x5 σ) 53 (mkp 0 9 [(0, .ref 0), (1, .int x1), (2, .int x2), (3, .long x3), (5, .int x5)]) [] σ) (KO146 : Int32 → Int64 → Wd → Option (Int64 × Wd)) (hKO146 : ∀ (x2 : Int32) (x3 : Int64) (σ : Wd), GO cX9_runs RX9 9 1 sc0 nI0 rJ nV0 (KO146 x2 x3 σ) 146 (mkp 0 9 [(0, .ref 0), (2, .int x2), (3, .long x3)]) [] σ) (x1 : Int32) (x2 : Int32) (x3 : Int64) (x5 : Int32) (x6 : Int64) (σ : Wd) : GO cX9_runs RX9 9 1 sc0 nI0 rJ nV0 (f_X9_runs_J89 N KB KO146 x1 x2 x3 x5 x6 σ) 89 (mkp 0 9 [(0, .ref 0), (1, .int x1), (2, .int x2), (3, .long x3), (5, .int x5), (6, .long x6)]) [] σ := by
  exact (by refine GO.to (md_X9_runs N) (kl := [(92, fun vs st σ => kS0 st (kA 0 0 vs (kI 1 vs (fun x1 => kI 2 vs (fun x2 => kJ 3 vs (fun x3 => kI 5 vs (fun x5 => kJ 6 vs (fun x6 => kI 8 vs (fun x8 => f_X9_runs_L92 N (f_X9_runs_J123 N KB KO146) N x1 x2 x3 x5 x6 x8 σ)))))))))]) (List.forall_mem_cons.mpr ⟨fun vs st σ => go_kS0 (go_kA (fun h0 => go_kI (fun x1 h1 => go_kI (fun x2 h2 => go_kJ (fun x3 h3 => go_kI (fun x5 h5 => go_kJ (fun x6 h6 => go_kI (fun x8 h8 => GO.pat [(0, .ref 0), (1, .int x1), (2, .int x2), (3, .long x3), (5, .int x5), (6, .long x6), (8, .int x8)] ⟨h0, h1, h2, h3, h5, h6, h8, trivial⟩ (g_X9_runs_L92 N (f_X9_runs_J123 N KB KO146) (g_X9_runs_J123 N KB hKB KO146 hKO146) N x1 x2 x3 x5 x6 x8 σ))))))))), (fun _ z => absurd z List.not_mem_nil)⟩) 102 ?_ ?_ <;> rfl)
set_option maxRecDepth 200000 in
theorem g_X9_runs_L53 (N : Nat) (KO146 : Int32 → Int64 → Wd → Option (Int64 × Wd)) (hKO146 : ∀ (x2 : Int32) (x3 : Int64) (σ : Wd), GO cX9_runs RX9 9 1 sc0 nI0 rJ nV0 (KO146 x2 x3 σ) 146 (mkp 0 9 [(0, .ref 0), (2, .int x2), (3, .long x3)]) [] σ) : ∀ (n : Nat), ∀ (x1 : Int32) (x2 : Int32) (x3 : Int64) (x5 : Int32) (σ : Wd), GO cX9_runs RX9 9 1 sc0 nI0 rJ nV0 (f_X9_runs_L53 N KO146 n x1 x2 x3 x5 σ) 53 (mkp 0 9 [(0, .ref 0), (1, .int x1), (2, .int x2), (3, .long x3), (5, .int x5)]) [] σ
  | 0, x1, x2, x3, x5, σ => GO.none
  | n + 1, x1, x2, x3, x5, σ => by
    exact (by refine GO.to (md_X9_runs N) (kl := [(146, fun vs st σ => kS0 st (kA 0 0 vs (kI 2 vs (fun x2 => kJ 3 vs (fun x3 => KO146 x2 x3 σ))))), (65, fun vs st σ => kS0 st (kA 0 0 vs (kI 1 vs (fun x1 => kI 2 vs (fun x2 => kJ 3 vs (fun x3 => kI 5 vs (fun x5 => kJ 6 vs (fun x6 => kI 8 vs (fun x8 => f_X9_runs_L65 N (f_X9_runs_J89 N (f_X9_runs_L53 N KO146 n) KO146) N x1 x2 x3 x5 x6 x8 σ)))))))))]) (List.forall_mem_cons.mpr ⟨fun vs st σ => go_kS0 (go_kA (fun h0 => go_kI (fun x2 h2 => go_kJ (fun x3 h3 => GO.pat [(0, .ref 0), (2, .int x2), (3, .long x3)] ⟨h0, h2, h3, trivial⟩ (hKO146 x2 x3 σ))))), List.forall_mem_cons.mpr ⟨fun vs st σ => go_kS0 (go_kA (fun h0 => go_kI (fun x1 h1 => go_kI (fun x2 h2 => go_kJ (fun x3 h3 => go_kI (fun x5 h5 => go_kJ (fun x6 h6 => go_kI (fun x8 h8 => GO.pat [(0, .ref 0), (1, .int x1), (2, .int x2), (3, .long x3), (5, .int x5), (6, .long x6), (8, .int x8)] ⟨h0, h1, h2, h3, h5, h6, h8, trivial⟩ (g_X9_runs_L65 N (f_X9_runs_J89 N (f_X9_runs_L53 N KO146 n) KO146) (g_X9_runs_J89 N (f_X9_runs_L53 N KO146 n) (g_X9_runs_L53 N KO146 hKO146 n) KO146 hKO146) N x1 x2 x3 x5 x6 x8 σ))))))))), (fun _ z => absurd z List.not_mem_nil)⟩⟩) 102 ?_ ?_ <;> rfl)
set_option maxRecDepth 200000 in
theorem g_X9_runs_L152 (N : Nat) (KO176 : Int64 → Wd → Option (Int64 × Wd)) (hKO176 : ∀ (x5 : Int64) (σ : Wd), GO cX9_runs RX9 9 1 sc0 nI0 rJ nV0 (KO176 x5 σ) 176 (mkp 0 9 [(5, .long x5)]) [] σ) : ∀ (n : Nat), ∀ (x2 : Int32) (x5 : Int64) (x7 : Int32) (σ : Wd), GO cX9_runs RX9 9 1 sc0 nI0 rJ nV0 (f_X9_runs_L152 N KO176 n x2 x5 x7 σ) 152 (mkp 0 9 [(0, .ref 0), (2, .int x2), (5, .long x5), (7, .int x7)]) [] σ
  | 0, x2, x5, x7, σ => GO.none
  | n + 1, x2, x5, x7, σ => by
    exact (by refine GO.to (md_X9_runs N) (kl := [(176, fun vs st σ => kS0 st (kJ 5 vs (fun x5 => KO176 x5 σ))), (152, fun vs st σ => kS0 st (kA 0 0 vs (kI 2 vs (fun x2 => kJ 5 vs (fun x5 => kI 7 vs (fun x7 => f_X9_runs_L152 N KO176 n x2 x5 x7 σ))))))]) (List.forall_mem_cons.mpr ⟨fun vs st σ => go_kS0 (go_kJ (fun x5 h5 => GO.pat [(5, .long x5)] ⟨h5, trivial⟩ (hKO176 x5 σ))), List.forall_mem_cons.mpr ⟨fun vs st σ => go_kS0 (go_kA (fun h0 => go_kI (fun x2 h2 => go_kJ (fun x5 h5 => go_kI (fun x7 h7 => GO.pat [(0, .ref 0), (2, .int x2), (5, .long x5), (7, .int x7)] ⟨h0, h2, h5, h7, trivial⟩ (g_X9_runs_L152 N KO176 hKO176 n x2 x5 x7 σ)))))), (fun _ z => absurd z List.not_mem_nil)⟩⟩) 102 ?_ ?_ <;> rfl)
set_option maxRecDepth 200000 in
theorem g_X9_runs_J176 (N : Nat) (x5 : Int64) (σ : Wd) : GO cX9_runs RX9 9 1 sc0 nI0 rJ nV0 (f_X9_runs_J176 N x5 σ) 176 (mkp 0 9 [(5, .long x5)]) [] σ := by
  exact (by refine GO.to (md_X9_runs N) (kl := []) ((fun _ z => absurd z List.not_mem_nil)) 102 ?_ ?_ <;> rfl)
set_option maxRecDepth 200000 in
theorem g_X9_runs_J146 (N : Nat) (x2 : Int32) (x3 : Int64) (σ : Wd) : GO cX9_runs RX9 9 1 sc0 nI0 rJ nV0 (f_X9_runs_J146 N x2 x3 σ) 146 (mkp 0 9 [(0, .ref 0), (2, .int x2), (3, .long x3)]) [] σ := by
  exact (by refine GO.to (md_X9_runs N) (kl := [(152, fun vs st σ => kS0 st (kA 0 0 vs (kI 2 vs (fun x2 => kJ 5 vs (fun x5 => kI 7 vs (fun x7 => f_X9_runs_L152 N (f_X9_runs_J176 N) N x2 x5 x7 σ))))))]) (List.forall_mem_cons.mpr ⟨fun vs st σ => go_kS0 (go_kA (fun h0 => go_kI (fun x2 h2 => go_kJ (fun x5 h5 => go_kI (fun x7 h7 => GO.pat [(0, .ref 0), (2, .int x2), (5, .long x5), (7, .int x7)] ⟨h0, h2, h5, h7, trivial⟩ (g_X9_runs_L152 N (f_X9_runs_J176 N) (g_X9_runs_J176 N) N x2 x5 x7 σ)))))), (fun _ z => absurd z List.not_mem_nil)⟩) 102 ?_ ?_ <;> rfl)
set_option maxRecDepth 200000 in
theorem g_X9_runs_J50 (N : Nat) (x1 : Int32) (x2 : Int32) (x3 : Int64) (σ : Wd) : GO cX9_runs RX9 9 1 sc0 nI0 rJ nV0 (f_X9_runs_J50 N x1 x2 x3 σ) 50 (mkp 0 9 [(0, .ref 0), (1, .int x1), (2, .int x2), (3, .long x3)]) [] σ := by
  exact (by refine GO.to (md_X9_runs N) (kl := [(53, fun vs st σ => kS0 st (kA 0 0 vs (kI 1 vs (fun x1 => kI 2 vs (fun x2 => kJ 3 vs (fun x3 => kI 5 vs (fun x5 => f_X9_runs_L53 N (f_X9_runs_J146 N) N x1 x2 x3 x5 σ)))))))]) (List.forall_mem_cons.mpr ⟨fun vs st σ => go_kS0 (go_kA (fun h0 => go_kI (fun x1 h1 => go_kI (fun x2 h2 => go_kJ (fun x3 h3 => go_kI (fun x5 h5 => GO.pat [(0, .ref 0), (1, .int x1), (2, .int x2), (3, .long x3), (5, .int x5)] ⟨h0, h1, h2, h3, h5, trivial⟩ (g_X9_runs_L53 N (f_X9_runs_J146 N) (g_X9_runs_J146 N) N x1 x2 x3 x5 σ))))))), (fun _ z => absurd z List.not_mem_nil)⟩) 102 ?_ ?_ <;> rfl)
set_option maxRecDepth 200000 in
theorem C_X9_runs (N : Nat) : CTL 1 yX9_runs cX9_runs 9 (some .long) (a_X9_runs N) := by
  refine CTL.of (own := RX9) (by decide) rfl (fun as σ r h => ?_)
  unfold a_X9_runs at h
  rcases kSE_s h with ⟨r0, rfl, h0⟩ | hn
  ·
    obtain ⟨b1, r1, rfl, h1⟩ := kSI_s h0
    obtain ⟨b2, r2, rfl, h2⟩ := kSI_s h1
    obtain ⟨rfl, h9⟩ := kS0_s h2
    exact ⟨Nat.le_of_ble_eq_true rfl, by refine GO.to (md_X9_runs N) (kl := [(30, fun vs st σ => kS0 st (kA 0 0 vs (kI 1 vs (fun x1 => kI 2 vs (fun x2 => kJ 3 vs (fun x3 => kI 5 vs (fun x5 => f_X9_runs_L30 N (f_X9_runs_J50 N) N x1 x2 x3 x5 σ)))))))]) (List.forall_mem_cons.mpr ⟨fun vs st σ => go_kS0 (go_kA (fun h0 => go_kI (fun x1 h1 => go_kI (fun x2 h2 => go_kJ (fun x3 h3 => go_kI (fun x5 h5 => GO.pat [(0, .ref 0), (1, .int x1), (2, .int x2), (3, .long x3), (5, .int x5)] ⟨h0, h1, h2, h3, h5, trivial⟩ (g_X9_runs_L30 N (f_X9_runs_J50 N) (g_X9_runs_J50 N) N x1 x2 x3 x5 σ))))))), (fun _ z => absurd z List.not_mem_nil)⟩) 102 ?_ ?_ <;> rfl⟩
  cases hn
def T_X9_timesHaveChanged : List (Nat × Ent) := [(0, .aload_n 0, 1, []), (1, .getfield 28, 4, []), (4, .iconst 0, 5, []), (5, .putfield 281, 8, []), (8, .aload_n 0, 9, []), (9, .getfield 49, 12, []), (12, .iconst 0, 13, []), (13, .putfield 291, 16, []), (16, .aload_n 0, 17, []), (17, .getfield 56, 20, []), (20, .iconst 0, 21, []), (21, .putfield 295, 24, []), (24, .return_, 25, [])]
set_option maxRecDepth 200000 in
theorem tc_X9_timesHaveChanged : T_X9_timesHaveChanged.all (chk cX9_timesHaveChanged) = true := by decide +kernel
def f_X9_timesHaveChanged (N : Nat) (σ : Wd) : Option Wd :=
  let σ1 : Wd := sF σ 3 1 0
  let σ2 : Wd := sF σ1 6 0 0
  let σ3 : Wd := sF σ2 7 0 0
  some σ3
def a_X9_timesHaveChanged (N : Nat) : List Value → Wd → Option Wd := fun as σ => kSE 0 as (fun r0 => kS0 r0 (f_X9_timesHaveChanged N σ)) (none)
def ct_X9_timesHaveChanged (N : Nat) : List (Nat × Cal) := []
set_option maxRecDepth 200000 in
theorem md_X9_timesHaveChanged (N : Nat) : MDOK T_X9_timesHaveChanged ft_X9 lt_X9 (ct_X9_timesHaveChanged N) cX9_timesHaveChanged RX9 1 := ⟨tc_X9_timesHaveChanged, fc_X9, lc_X9, (fun _ z => absurd z List.not_mem_nil)⟩
set_option maxRecDepth 200000 in
theorem C_X9_timesHaveChanged (N : Nat) : CTV 1 yX9_timesHaveChanged cX9_timesHaveChanged 1 none (a_X9_timesHaveChanged N) := by
  refine CTV.of (own := RX9) (by decide) rfl (fun as σ r h => ?_)
  unfold a_X9_timesHaveChanged at h
  rcases kSE_s h with ⟨r0, rfl, h0⟩ | hn
  ·
    obtain ⟨rfl, h9⟩ := kS0_s h0
    exact ⟨Nat.le_of_ble_eq_true rfl, by refine GO.to (md_X9_timesHaveChanged N) (kl := []) ((fun _ z => absurd z List.not_mem_nil)) 18 ?_ ?_ <;> rfl⟩
  cases hn
def T_X9_filledShelves : List (Nat × Ent) := [(0, .iconst 0, 1, []), (1, .istore_n 1, 2, []), (2, .iconst 0, 3, []), (3, .istore_n 2, 4, []), (4, .iload_n 2, 5, []), (5, .iconst 4, 6, []), (6, .if_icmp .ge 25, 9, [31]), (9, .aload_n 0, 10, []), (10, .getfield 62, 13, []), (13, .iload_n 2, 14, []), (14, .aaload, 15, []), (15, .getfield 248, 18, []), (18, .iconst (-1), 19, []), (19, .if_icmp .eq 6, 22, [25]), (22, .iinc 1 1, 25, []), (25, .iinc 2 1, 28, []), (28, .goto (-24), 31, [4]), (31, .iload_n 1, 32, []), (32, .ireturn, 33, [])]
set_option maxRecDepth 200000 in
theorem tc_X9_filledShelves : T_X9_filledShelves.all (chk cX9_filledShelves) = true := by decide +kernel
def f_X9_filledShelves_L4 (N : Nat) (KO31 : Int32 → Wd → Option (Int32 × Wd)) : Nat → Int32 → Int32 → Wd → Option (Int32 × Wd)
  | 0, _, _, _ => none
  | n + 1, x1, x2, σ => if 4 ≤ x2 then (KO31 x1 σ) else (xsh x2 fun k1 => if (σ.1 k1 1) = (-1) then (f_X9_filledShelves_L4 N KO31 n x1 (x2 + 1) σ) else (f_X9_filledShelves_L4 N KO31 n (x1 + 1) (x2 + 1) σ))
def f_X9_filledShelves_J31 (N : Nat) (x1 : Int32) (σ : Wd) : Option (Int32 × Wd) :=
  some (x1, σ)
def f_X9_filledShelves (N : Nat) (σ : Wd) : Option (Int32 × Wd) :=
  f_X9_filledShelves_L4 N (f_X9_filledShelves_J31 N) N 0 0 σ
def a_X9_filledShelves (N : Nat) : List Value → Wd → Option (Int32 × Wd) := fun as σ => kSE 0 as (fun r0 => kS0 r0 (f_X9_filledShelves N σ)) (none)
def ct_X9_filledShelves (N : Nat) : List (Nat × Cal) := []
set_option maxRecDepth 200000 in
theorem md_X9_filledShelves (N : Nat) : MDOK T_X9_filledShelves ft_X9 lt_X9 (ct_X9_filledShelves N) cX9_filledShelves RX9 1 := ⟨tc_X9_filledShelves, fc_X9, lc_X9, (fun _ z => absurd z List.not_mem_nil)⟩
set_option maxRecDepth 200000 in
theorem g_X9_filledShelves_L4 (N : Nat) (KO31 : Int32 → Wd → Option (Int32 × Wd)) (hKO31 : ∀ (x1 : Int32) (σ : Wd), GO cX9_filledShelves RX9 3 1 sc0 rI nJ0 nV0 (KO31 x1 σ) 31 (mkp 0 3 [(1, .int x1)]) [] σ) : ∀ (n : Nat), ∀ (x1 : Int32) (x2 : Int32) (σ : Wd), GO cX9_filledShelves RX9 3 1 sc0 rI nJ0 nV0 (f_X9_filledShelves_L4 N KO31 n x1 x2 σ) 4 (mkp 0 3 [(0, .ref 0), (1, .int x1), (2, .int x2)]) [] σ
  | 0, x1, x2, σ => GO.none
  | n + 1, x1, x2, σ => by
    exact (by refine GO.to (md_X9_filledShelves N) (kl := [(31, fun vs st σ => kS0 st (kI 1 vs (fun x1 => KO31 x1 σ))), (4, fun vs st σ => kS0 st (kA 0 0 vs (kI 1 vs (fun x1 => kI 2 vs (fun x2 => f_X9_filledShelves_L4 N KO31 n x1 x2 σ)))))]) (List.forall_mem_cons.mpr ⟨fun vs st σ => go_kS0 (go_kI (fun x1 h1 => GO.pat [(1, .int x1)] ⟨h1, trivial⟩ (hKO31 x1 σ))), List.forall_mem_cons.mpr ⟨fun vs st σ => go_kS0 (go_kA (fun h0 => go_kI (fun x1 h1 => go_kI (fun x2 h2 => GO.pat [(0, .ref 0), (1, .int x1), (2, .int x2)] ⟨h0, h1, h2, trivial⟩ (g_X9_filledShelves_L4 N KO31 hKO31 n x1 x2 σ))))), (fun _ z => absurd z List.not_mem_nil)⟩⟩) 24 ?_ ?_ <;> rfl)
set_option maxRecDepth 200000 in
theorem g_X9_filledShelves_J31 (N : Nat) (x1 : Int32) (σ : Wd) : GO cX9_filledShelves RX9 3 1 sc0 rI nJ0 nV0 (f_X9_filledShelves_J31 N x1 σ) 31 (mkp 0 3 [(1, .int x1)]) [] σ := by
  exact (by refine GO.to (md_X9_filledShelves N) (kl := []) ((fun _ z => absurd z List.not_mem_nil)) 24 ?_ ?_ <;> rfl)
set_option maxRecDepth 200000 in
theorem C_X9_filledShelves (N : Nat) : CTI 1 yX9_filledShelves cX9_filledShelves 3 (some .int) (a_X9_filledShelves N) := by
  refine CTI.of (own := RX9) (by decide) rfl (fun as σ r h => ?_)
  unfold a_X9_filledShelves at h
  rcases kSE_s h with ⟨r0, rfl, h0⟩ | hn
  ·
    obtain ⟨rfl, h9⟩ := kS0_s h0
    exact ⟨Nat.le_of_ble_eq_true rfl, by refine GO.to (md_X9_filledShelves N) (kl := [(4, fun vs st σ => kS0 st (kA 0 0 vs (kI 1 vs (fun x1 => kI 2 vs (fun x2 => f_X9_filledShelves_L4 N (f_X9_filledShelves_J31 N) N x1 x2 σ)))))]) (List.forall_mem_cons.mpr ⟨fun vs st σ => go_kS0 (go_kA (fun h0 => go_kI (fun x1 h1 => go_kI (fun x2 h2 => GO.pat [(0, .ref 0), (1, .int x1), (2, .int x2)] ⟨h0, h1, h2, trivial⟩ (g_X9_filledShelves_L4 N (f_X9_filledShelves_J31 N) (g_X9_filledShelves_J31 N) N x1 x2 σ))))), (fun _ z => absurd z List.not_mem_nil)⟩) 24 ?_ ?_ <;> rfl⟩
  cases hn
def T_X9_isInput : List (Nat × Ent) := [(0, .iload_n 0, 1, []), (1, .iconst 2, 2, []), (2, .if_icmp .ne 13, 5, [15]), (5, .iload_n 1, 6, []), (6, .ifCond .ne 7, 9, [13]), (9, .iconst 1, 10, []), (10, .goto 4, 13, [14]), (13, .iconst 0, 14, []), (14, .ireturn, 15, []), (15, .iload_n 0, 16, []), (16, .ifCond .lt 22, 19, [38]), (19, .iload_n 0, 20, []), (20, .iconst 2, 21, []), (21, .if_icmp .ge 17, 24, [38]), (24, .iload_n 1, 25, []), (25, .ifCond .lt 13, 28, [38]), (28, .iload_n 1, 29, []), (29, .bipush 12, 31, []), (31, .if_icmp .ge 7, 34, [38]), (34, .iconst 1, 35, []), (35, .goto 4, 38, [39]), (38, .iconst 0, 39, []), (39, .ireturn, 40, [])]
set_option maxRecDepth 200000 in
theorem tc_X9_isInput : T_X9_isInput.all (chk cX9_isInput) = true := by decide +kernel
def f_X9_isInput (N : Nat) (a0 : Int32) (a1 : Int32) (σ : Wd) : Option (Int32 × Wd) :=
  if a0 = 2 then (if a1 = 0 then (some (1, σ)) else (some (0, σ))) else (if a0 < 0 then (some (0, σ)) else (if 2 ≤ a0 then (some (0, σ)) else (if a1 < 0 then (some (0, σ)) else (if 12 ≤ a1 then (some (0, σ)) else (some (1, σ))))))
def a_X9_isInput (N : Nat) : List Value → Wd → Option (Int32 × Wd) := fun as σ => kSI as (fun b0 r0 => kSI r0 (fun b1 r1 => kS0 r1 (f_X9_isInput N b0 b1 σ)))
def ct_X9_isInput (N : Nat) : List (Nat × Cal) := []
set_option maxRecDepth 200000 in
theorem md_X9_isInput (N : Nat) : MDOK T_X9_isInput ft_X9 lt_X9 (ct_X9_isInput N) cX9_isInput RX9 1 := ⟨tc_X9_isInput, fc_X9, lc_X9, (fun _ z => absurd z List.not_mem_nil)⟩
set_option maxRecDepth 200000 in
theorem C_X9_isInput (N : Nat) : CTI 1 yX9_isInput cX9_isInput 2 (some .boolean) (a_X9_isInput N) := by
  refine CTZ.of (own := RX9) (by decide) rfl (fun as σ r h => ?_)
  unfold a_X9_isInput at h
  obtain ⟨b0, r0, rfl, h0⟩ := kSI_s h
  obtain ⟨b1, r1, rfl, h1⟩ := kSI_s h0
  obtain ⟨rfl, h9⟩ := kS0_s h1
  exact ⟨Nat.le_of_ble_eq_true rfl, by refine GO.to (md_X9_isInput N) (kl := []) ((fun _ z => absurd z List.not_mem_nil)) 28 ?_ ?_ <;> rfl⟩
def T_X9_areNumbers : List (Nat × Ent) := [(0, .iconst 1, 1, []), (1, .iload_n 3, 2, []), (2, .ishl, 3, []), (3, .istore 4, 5, []), (5, .iload_n 0, 6, []), (6, .ifCond .lt 32, 9, [38]), (9, .iload_n 0, 10, []), (10, .iload 4, 12, []), (12, .if_icmp .ge 26, 15, [38]), (15, .iload_n 1, 16, []), (16, .ifCond .lt 22, 19, [38]), (19, .iload_n 1, 20, []), (20, .iload 4, 22, []), (22, .if_icmp .ge 16, 25, [38]), (25, .iload_n 2, 26, []), (26, .ifCond .lt 12, 29, [38]), (29, .iload_n 2, 30, []), (30, .iconst 1, 31, []), (31, .if_icmp .gt 7, 34, [38]), (34, .iconst 1, 35, []), (35, .goto 4, 38, [39]), (38, .iconst 0, 39, []), (39, .ireturn, 40, [])]
set_option maxRecDepth 200000 in
theorem tc_X9_areNumbers : T_X9_areNumbers.all (chk cX9_areNumbers) = true := by decide +kernel
def f_X9_areNumbers (N : Nat) (a0 : Int32) (a1 : Int32) (a2 : Int32) (a3 : Int32) (σ : Wd) : Option (Int32 × Wd) :=
  if a0 < 0 then (some (0, σ)) else (if (1 <<< (a3 &&& 31)) ≤ a0 then (some (0, σ)) else (if a1 < 0 then (some (0, σ)) else (if (1 <<< (a3 &&& 31)) ≤ a1 then (some (0, σ)) else (if a2 < 0 then (some (0, σ)) else (if 1 < a2 then (some (0, σ)) else (some (1, σ)))))))
def a_X9_areNumbers (N : Nat) : List Value → Wd → Option (Int32 × Wd) := fun as σ => kSI as (fun b0 r0 => kSI r0 (fun b1 r1 => kSI r1 (fun b2 r2 => kSI r2 (fun b3 r3 => kS0 r3 (f_X9_areNumbers N b0 b1 b2 b3 σ)))))
def ct_X9_areNumbers (N : Nat) : List (Nat × Cal) := []
set_option maxRecDepth 200000 in
theorem md_X9_areNumbers (N : Nat) : MDOK T_X9_areNumbers ft_X9 lt_X9 (ct_X9_areNumbers N) cX9_areNumbers RX9 1 := ⟨tc_X9_areNumbers, fc_X9, lc_X9, (fun _ z => absurd z List.not_mem_nil)⟩
set_option maxRecDepth 200000 in
theorem C_X9_areNumbers (N : Nat) : CTI 1 yX9_areNumbers cX9_areNumbers 5 (some .boolean) (a_X9_areNumbers N) := by
  refine CTZ.of (own := RX9) (by decide) rfl (fun as σ r h => ?_)
  unfold a_X9_areNumbers at h
  obtain ⟨b0, r0, rfl, h0⟩ := kSI_s h
  obtain ⟨b1, r1, rfl, h1⟩ := kSI_s h0
  obtain ⟨b2, r2, rfl, h2⟩ := kSI_s h1
  obtain ⟨b3, r3, rfl, h3⟩ := kSI_s h2
  obtain ⟨rfl, h9⟩ := kS0_s h3
  exact ⟨Nat.le_of_ble_eq_true rfl, by refine GO.to (md_X9_areNumbers N) (kl := []) ((fun _ z => absurd z List.not_mem_nil)) 28 ?_ ?_ <;> rfl⟩
def T_X9_isShelf : List (Nat × Ent) := [(0, .iload_n 0, 1, []), (1, .ifCond .lt 12, 4, [13]), (4, .iload_n 0, 5, []), (5, .iconst 4, 6, []), (6, .if_icmp .ge 7, 9, [13]), (9, .iconst 1, 10, []), (10, .goto 4, 13, [14]), (13, .iconst 0, 14, []), (14, .ireturn, 15, [])]
set_option maxRecDepth 200000 in
theorem tc_X9_isShelf : T_X9_isShelf.all (chk cX9_isShelf) = true := by decide +kernel
def f_X9_isShelf (N : Nat) (a0 : Int32) (σ : Wd) : Option (Int32 × Wd) :=
  if a0 < 0 then (some (0, σ)) else (if 4 ≤ a0 then (some (0, σ)) else (some (1, σ)))
def a_X9_isShelf (N : Nat) : List Value → Wd → Option (Int32 × Wd) := fun as σ => kSI as (fun b0 r0 => kS0 r0 (f_X9_isShelf N b0 σ))
def ct_X9_isShelf (N : Nat) : List (Nat × Cal) := []
set_option maxRecDepth 200000 in
theorem md_X9_isShelf (N : Nat) : MDOK T_X9_isShelf ft_X9 lt_X9 (ct_X9_isShelf N) cX9_isShelf RX9 1 := ⟨tc_X9_isShelf, fc_X9, lc_X9, (fun _ z => absurd z List.not_mem_nil)⟩
set_option maxRecDepth 200000 in
theorem C_X9_isShelf (N : Nat) : CTI 1 yX9_isShelf cX9_isShelf 1 (some .boolean) (a_X9_isShelf N) := by
  refine CTZ.of (own := RX9) (by decide) rfl (fun as σ r h => ?_)
  unfold a_X9_isShelf at h
  obtain ⟨b0, r0, rfl, h0⟩ := kSI_s h
  obtain ⟨rfl, h9⟩ := kS0_s h0
  exact ⟨Nat.le_of_ble_eq_true rfl, by refine GO.to (md_X9_isShelf N) (kl := []) ((fun _ z => absurd z List.not_mem_nil)) 14 ?_ ?_ <;> rfl⟩
def T_X9_feed : List (Nat × Ent) := [(0, .iload_n 1, 1, []), (1, .bipush 32, 3, []), (3, .if_icmp .lt 9, 6, [12]), (6, .iload_n 1, 7, []), (7, .bipush 126, 9, []), (9, .if_icmp .le 5, 12, [14]), (12, .iconst (-1), 13, []), (13, .ireturn, 14, []), (14, .aload_n 0, 15, []), (15, .getfield 12, 18, []), (18, .iload_n 1, 19, []), (19, .invokevirtual 71, 22, []), (22, .ifCond .eq 13, 25, [35]), (25, .aload_n 0, 26, []), (26, .getfield 12, 29, []), (29, .getfield 75, 32, []), (32, .goto 5, 35, [37]), (35, .bipush (-3), 37, []), (37, .ireturn, 38, [])]
set_option maxRecDepth 200000 in
theorem tc_X9_feed : T_X9_feed.all (chk cX9_feed) = true := by decide +kernel
def f_X9_feed (N : Nat) (a1 : Int32) (σ : Wd) : Option (Int32 × Wd) :=
  if a1 < 32 then (some ((-1), σ)) else (if a1 ≤ 126 then ((f_X7_append N a1 σ).bind fun p1 => if p1.1 = 0 then (some ((-3), p1.2)) else (some (p1.2.1 1 1, p1.2))) else (some ((-1), σ)))
def a_X9_feed (N : Nat) : List Value → Wd → Option (Int32 × Wd) := fun as σ => kSE 0 as (fun r0 => kSI r0 (fun b1 r1 => kS0 r1 (f_X9_feed N b1 σ))) (none)
set_option maxRecDepth 200000 in
theorem k_X9_71 : calchk RX9 71 2 7 yX7_append cX7_append 2 (some .boolean) = true := by decide +kernel
def ct_X9_feed (N : Nat) : List (Nat × Cal) := [(71, 2, 7, .inl (a_X7_append N))]
set_option maxRecDepth 200000 in
theorem md_X9_feed (N : Nat) : MDOK T_X9_feed ft_X9 lt_X9 (ct_X9_feed N) cX9_feed RX9 2 := ⟨tc_X9_feed, fc_X9, lc_X9, List.forall_mem_cons.mpr ⟨Or.inl ⟨yX7_append, cX7_append, 2, (some .boolean), 1, k_X9_71, Nat.le_of_ble_eq_true rfl, C_X7_append N⟩, (fun _ z => absurd z List.not_mem_nil)⟩⟩
set_option maxRecDepth 200000 in
theorem C_X9_feed (N : Nat) : CTI 2 yX9_feed cX9_feed 2 (some .int) (a_X9_feed N) := by
  refine CTI.of (own := RX9) (by decide) rfl (fun as σ r h => ?_)
  unfold a_X9_feed at h
  rcases kSE_s h with ⟨r0, rfl, h0⟩ | hn
  ·
    obtain ⟨b1, r1, rfl, h1⟩ := kSI_s h0
    obtain ⟨rfl, h9⟩ := kS0_s h1
    exact ⟨Nat.le_of_ble_eq_true rfl, by refine GO.to (md_X9_feed N) (kl := []) ((fun _ z => absurd z List.not_mem_nil)) 24 ?_ ?_ <;> rfl⟩
  cases hn
def T_X9_forget : List (Nat × Ent) := [(0, .aload_n 0, 1, []), (1, .getfield 21, 4, []), (4, .iload_n 1, 5, []), (5, .invokevirtual 104, 8, []), (8, .ifCond .ne 5, 11, [13]), (11, .iconst (-1), 12, []), (12, .ireturn, 13, []), (13, .aload_n 0, 14, []), (14, .getfield 21, 17, []), (17, .iload_n 1, 18, []), (18, .invokevirtual 107, 21, []), (21, .aload_n 0, 22, []), (22, .getfield 21, 25, []), (25, .getfield 111, 28, []), (28, .ireturn, 29, [])]
set_option maxRecDepth 200000 in
theorem tc_X9_forget : T_X9_forget.all (chk cX9_forget) = true := by decide +kernel
def f_X9_forget (N : Nat) (a1 : Int32) (σ : Wd) : Option (Int32 × Wd) :=
  (f_X3_has N a1 σ).bind fun p1 => if p1.1 = 0 then (some ((-1), p1.2)) else ((f_X3_remove N a1 p1.2).bind fun σ2 => some (σ2.1 2 2, σ2))
def a_X9_forget (N : Nat) : List Value → Wd → Option (Int32 × Wd) := fun as σ => kSE 0 as (fun r0 => kSI r0 (fun b1 r1 => kS0 r1 (f_X9_forget N b1 σ))) (none)
set_option maxRecDepth 200000 in
theorem k_X9_104 : calchk RX9 104 2 3 yX3_has cX3_has 2 (some .boolean) = true := by decide +kernel
set_option maxRecDepth 200000 in
theorem k_X9_107 : calchk RX9 107 2 3 yX3_remove cX3_remove 3 none = true := by decide +kernel
def ct_X9_forget (N : Nat) : List (Nat × Cal) := [(104, 2, 3, .inl (a_X3_has N)), (107, 2, 3, .inr (.inr (a_X3_remove N)))]
set_option maxRecDepth 200000 in
theorem md_X9_forget (N : Nat) : MDOK T_X9_forget ft_X9 lt_X9 (ct_X9_forget N) cX9_forget RX9 2 := ⟨tc_X9_forget, fc_X9, lc_X9, List.forall_mem_cons.mpr ⟨Or.inl ⟨yX3_has, cX3_has, 2, (some .boolean), 1, k_X9_104, Nat.le_of_ble_eq_true rfl, C_X3_has N⟩, List.forall_mem_cons.mpr ⟨Or.inl ⟨yX3_remove, cX3_remove, 3, none, 1, k_X9_107, Nat.le_of_ble_eq_true rfl, C_X3_remove N⟩, (fun _ z => absurd z List.not_mem_nil)⟩⟩⟩
set_option maxRecDepth 200000 in
theorem C_X9_forget (N : Nat) : CTI 2 yX9_forget cX9_forget 2 (some .int) (a_X9_forget N) := by
  refine CTI.of (own := RX9) (by decide) rfl (fun as σ r h => ?_)
  unfold a_X9_forget at h
  rcases kSE_s h with ⟨r0, rfl, h0⟩ | hn
  ·
    obtain ⟨b1, r1, rfl, h1⟩ := kSI_s h0
    obtain ⟨rfl, h9⟩ := kS0_s h1
    exact ⟨Nat.le_of_ble_eq_true rfl, by refine GO.to (md_X9_forget N) (kl := []) ((fun _ z => absurd z List.not_mem_nil)) 20 ?_ ?_ <;> rfl⟩
  cases hn
def T_X9_name : List (Nat × Ent) := [(0, .aload_n 0, 1, []), (1, .getfield 21, 4, []), (4, .iload_n 1, 5, []), (5, .invokevirtual 104, 8, []), (8, .ifCond .eq 8, 11, [16]), (11, .iload_n 2, 12, []), (12, .iconst (-1), 13, []), (13, .if_icmp .ge 5, 16, [18]), (16, .iconst (-1), 17, []), (17, .ireturn, 18, []), (18, .aload_n 0, 19, []), (19, .getfield 21, 22, []), (22, .iload_n 1, 23, []), (23, .invokevirtual 129, 26, []), (26, .istore_n 3, 27, []), (27, .iload_n 2, 28, []), (28, .iconst (-1), 29, []), (29, .if_icmp .ne 5, 32, [34]), (32, .iload_n 3, 33, []), (33, .ireturn, 34, []), (34, .iload_n 2, 35, []), (35, .iload_n 3, 36, []), (36, .if_icmp .ge 24, 39, [60]), (39, .aload_n 0, 40, []), (40, .getfield 21, 43, []), (43, .getfield 132, 46, []), (46, .iload_n 1, 47, []), (47, .iaload, 48, []), (48, .bipush 8, 50, []), (50, .iload_n 2, 51, []), (51, .imul, 52, []), (52, .ishr, 53, []), (53, .sipush 255, 56, []), (56, .iand, 57, []), (57, .goto 5, 60, [62]), (60, .bipush (-2), 62, []), (62, .ireturn, 63, [])]
set_option maxRecDepth 200000 in
theorem tc_X9_name : T_X9_name.all (chk cX9_name) = true := by decide +kernel
def f_X9_name (N : Nat) (a1 : Int32) (a2 : Int32) (σ : Wd) : Option (Int32 × Wd) :=
  (f_X3_has N a1 σ).bind fun p1 => if p1.1 = 0 then (some ((-1), p1.2)) else (if (-1) ≤ a2 then ((f_X3_nameLength N a1 p1.2).bind fun p2 => if a2 = (-1) then (some (p2.1, p2.2)) else (if p2.1 ≤ a2 then (some ((-2), p2.2)) else ((xld p2.2 15 12 a1).bind fun v3 => some ((v3 >>> ((8 * a2) &&& 31)) &&& 255, p2.2)))) else (some ((-1), p1.2)))
def a_X9_name (N : Nat) : List Value → Wd → Option (Int32 × Wd) := fun as σ => kSE 0 as (fun r0 => kSI r0 (fun b1 r1 => kSI r1 (fun b2 r2 => kS0 r2 (f_X9_name N b1 b2 σ)))) (none)
set_option maxRecDepth 200000 in
theorem k_X9_129 : calchk RX9 129 2 3 yX3_nameLength cX3_nameLength 3 (some .int) = true := by decide +kernel
def ct_X9_name (N : Nat) : List (Nat × Cal) := [(104, 2, 3, .inl (a_X3_has N)), (129, 2, 3, .inl (a_X3_nameLength N))]
set_option maxRecDepth 200000 in
theorem md_X9_name (N : Nat) : MDOK T_X9_name ft_X9 lt_X9 (ct_X9_name N) cX9_name RX9 2 := ⟨tc_X9_name, fc_X9, lc_X9, List.forall_mem_cons.mpr ⟨Or.inl ⟨yX3_has, cX3_has, 2, (some .boolean), 1, k_X9_104, Nat.le_of_ble_eq_true rfl, C_X3_has N⟩, List.forall_mem_cons.mpr ⟨Or.inl ⟨yX3_nameLength, cX3_nameLength, 3, (some .int), 1, k_X9_129, Nat.le_of_ble_eq_true rfl, C_X3_nameLength N⟩, (fun _ z => absurd z List.not_mem_nil)⟩⟩⟩
set_option maxRecDepth 200000 in
theorem C_X9_name (N : Nat) : CTI 2 yX9_name cX9_name 4 (some .int) (a_X9_name N) := by
  refine CTI.of (own := RX9) (by decide) rfl (fun as σ r h => ?_)
  unfold a_X9_name at h
  rcases kSE_s h with ⟨r0, rfl, h0⟩ | hn
  ·
    obtain ⟨b1, r1, rfl, h1⟩ := kSI_s h0
    obtain ⟨b2, r2, rfl, h2⟩ := kSI_s h1
    obtain ⟨rfl, h9⟩ := kS0_s h2
    exact ⟨Nat.le_of_ble_eq_true rfl, by refine GO.to (md_X9_name N) (kl := []) ((fun _ z => absurd z List.not_mem_nil)) 42 ?_ ?_ <;> rfl⟩
  cases hn
def T_X9_delay : List (Nat × Ent) := [(0, .iload_n 1, 1, []), (1, .ifCond .lt 18, 4, [19]), (4, .iload_n 1, 5, []), (5, .iconst 3, 6, []), (6, .if_icmp .gt 13, 9, [19]), (9, .iload_n 2, 10, []), (10, .ifCond .lt 9, 13, [19]), (13, .iload_n 2, 14, []), (14, .bipush 9, 16, []), (16, .if_icmp .le 5, 19, [21]), (19, .iconst (-1), 20, []), (20, .ireturn, 21, []), (21, .aload_n 0, 22, []), (22, .getfield 42, 25, []), (25, .getfield 136, 28, []), (28, .iload_n 1, 29, []), (29, .iaload, 30, []), (30, .istore_n 3, 31, []), (31, .aload_n 0, 32, []), (32, .getfield 42, 35, []), (35, .getfield 136, 38, []), (38, .iload_n 1, 39, []), (39, .iload_n 2, 40, []), (40, .iastore, 41, []), (41, .aload_n 0, 42, []), (42, .invokevirtual 139, 45, []), (45, .iload_n 3, 46, []), (46, .ireturn, 47, [])]
set_option maxRecDepth 200000 in
theorem tc_X9_delay : T_X9_delay.all (chk cX9_delay) = true := by decide +kernel
def f_X9_delay (N : Nat) (a1 : Int32) (a2 : Int32) (σ : Wd) : Option (Int32 × Wd) :=
  if a1 < 0 then (some ((-1), σ)) else (if 3 < a1 then (some ((-1), σ)) else (if a2 < 0 then (some ((-1), σ)) else (if a2 ≤ 9 then ((xld σ 30 4 a1).bind fun v1 => (xst σ 30 4 a1 a2).bind fun σ2 => (f_X9_timesHaveChanged N σ2).bind fun σ3 => some (v1, σ3)) else (some ((-1), σ)))))
def a_X9_delay (N : Nat) : List Value → Wd → Option (Int32 × Wd) := fun as σ => kSE 0 as (fun r0 => kSI r0 (fun b1 r1 => kSI r1 (fun b2 r2 => kS0 r2 (f_X9_delay N b1 b2 σ)))) (none)
set_option maxRecDepth 200000 in
theorem k_X9_139 : calchk RX9 139 1 9 yX9_timesHaveChanged cX9_timesHaveChanged 1 none = true := by decide +kernel
def ct_X9_delay (N : Nat) : List (Nat × Cal) := [(139, 1, 9, .inr (.inr (a_X9_timesHaveChanged N)))]
set_option maxRecDepth 200000 in
theorem md_X9_delay (N : Nat) : MDOK T_X9_delay ft_X9 lt_X9 (ct_X9_delay N) cX9_delay RX9 2 := ⟨tc_X9_delay, fc_X9, lc_X9, List.forall_mem_cons.mpr ⟨Or.inl ⟨yX9_timesHaveChanged, cX9_timesHaveChanged, 1, none, 1, k_X9_139, Nat.le_of_ble_eq_true rfl, C_X9_timesHaveChanged N⟩, (fun _ z => absurd z List.not_mem_nil)⟩⟩
set_option maxRecDepth 200000 in
theorem C_X9_delay (N : Nat) : CTI 2 yX9_delay cX9_delay 4 (some .int) (a_X9_delay N) := by
  refine CTI.of (own := RX9) (by decide) rfl (fun as σ r h => ?_)
  unfold a_X9_delay at h
  rcases kSE_s h with ⟨r0, rfl, h0⟩ | hn
  ·
    obtain ⟨b1, r1, rfl, h1⟩ := kSI_s h0
    obtain ⟨b2, r2, rfl, h2⟩ := kSI_s h1
    obtain ⟨rfl, h9⟩ := kS0_s h2
    exact ⟨Nat.le_of_ble_eq_true rfl, by refine GO.to (md_X9_delay N) (kl := []) ((fun _ z => absurd z List.not_mem_nil)) 33 ?_ ?_ <;> rfl⟩
  cases hn
def T_X9_arrival : List (Nat × Ent) := [(0, .iload_n 1, 1, []), (1, .iload_n 2, 2, []), (2, .invokestatic 142, 5, []), (5, .ifCond .eq 13, 8, [18]), (8, .iload_n 3, 9, []), (9, .ifCond .lt 9, 12, [18]), (12, .iload_n 3, 13, []), (13, .bipush 99, 15, []), (15, .if_icmp .le 5, 18, [20]), (18, .iconst (-1), 19, []), (19, .ireturn, 20, []), (20, .iload_n 1, 21, []), (21, .bipush 12, 23, []), (23, .imul, 24, []), (24, .iload_n 2, 25, []), (25, .iadd, 26, []), (26, .istore 4, 28, []), (28, .aload_n 0, 29, []), (29, .getfield 42, 32, []), (32, .getfield 146, 35, []), (35, .iload 4, 37, []), (37, .iaload, 38, []), (38, .istore 5, 40, []), (40, .aload_n 0, 41, []), (41, .getfield 42, 44, []), (44, .getfield 146, 47, []), (47, .iload 4, 49, []), (49, .iload_n 3, 50, []), (50, .iastore, 51, []), (51, .aload_n 0, 52, []), (52, .invokevirtual 139, 55, []), (55, .iload 5, 57, []), (57, .ireturn, 58, [])]
set_option maxRecDepth 200000 in
theorem tc_X9_arrival : T_X9_arrival.all (chk cX9_arrival) = true := by decide +kernel
def f_X9_arrival (N : Nat) (a1 : Int32) (a2 : Int32) (a3 : Int32) (σ : Wd) : Option (Int32 × Wd) :=
  (f_X9_isInput N a1 a2 σ).bind fun p1 => if p1.1 = 0 then (some ((-1), p1.2)) else (if a3 < 0 then (some ((-1), p1.2)) else (if a3 ≤ 99 then ((xld p1.2 31 25 ((a1 * 12) + a2)).bind fun v2 => (xst p1.2 31 25 ((a1 * 12) + a2) a3).bind fun σ3 => (f_X9_timesHaveChanged N σ3).bind fun σ4 => some (v2, σ4)) else (some ((-1), p1.2))))
def a_X9_arrival (N : Nat) : List Value → Wd → Option (Int32 × Wd) := fun as σ => kSE 0 as (fun r0 => kSI r0 (fun b1 r1 => kSI r1 (fun b2 r2 => kSI r2 (fun b3 r3 => kS0 r3 (f_X9_arrival N b1 b2 b3 σ))))) (none)
set_option maxRecDepth 200000 in
theorem k_X9_142 : calchk RX9 142 2 0 yX9_isInput cX9_isInput 2 (some .boolean) = true := by decide +kernel
def ct_X9_arrival (N : Nat) : List (Nat × Cal) := [(142, 2, 0, .inl (a_X9_isInput N)), (139, 1, 9, .inr (.inr (a_X9_timesHaveChanged N)))]
set_option maxRecDepth 200000 in
theorem md_X9_arrival (N : Nat) : MDOK T_X9_arrival ft_X9 lt_X9 (ct_X9_arrival N) cX9_arrival RX9 2 := ⟨tc_X9_arrival, fc_X9, lc_X9, List.forall_mem_cons.mpr ⟨Or.inl ⟨yX9_isInput, cX9_isInput, 2, (some .boolean), 1, k_X9_142, Nat.le_of_ble_eq_true rfl, C_X9_isInput N⟩, List.forall_mem_cons.mpr ⟨Or.inl ⟨yX9_timesHaveChanged, cX9_timesHaveChanged, 1, none, 1, k_X9_139, Nat.le_of_ble_eq_true rfl, C_X9_timesHaveChanged N⟩, (fun _ z => absurd z List.not_mem_nil)⟩⟩⟩
set_option maxRecDepth 200000 in
theorem C_X9_arrival (N : Nat) : CTI 2 yX9_arrival cX9_arrival 6 (some .int) (a_X9_arrival N) := by
  refine CTI.of (own := RX9) (by decide) rfl (fun as σ r h => ?_)
  unfold a_X9_arrival at h
  rcases kSE_s h with ⟨r0, rfl, h0⟩ | hn
  ·
    obtain ⟨b1, r1, rfl, h1⟩ := kSI_s h0
    obtain ⟨b2, r2, rfl, h2⟩ := kSI_s h1
    obtain ⟨b3, r3, rfl, h3⟩ := kSI_s h2
    obtain ⟨rfl, h9⟩ := kS0_s h3
    exact ⟨Nat.le_of_ble_eq_true rfl, by refine GO.to (md_X9_arrival N) (kl := []) ((fun _ z => absurd z List.not_mem_nil)) 38 ?_ ?_ <;> rfl⟩
  cases hn
def T_X9_arrives : List (Nat × Ent) := [(0, .iload_n 1, 1, []), (1, .iload_n 2, 2, []), (2, .invokestatic 142, 5, []), (5, .ifCond .eq 20, 8, [25]), (8, .aload_n 0, 9, []), (9, .getfield 42, 12, []), (12, .getfield 146, 15, []), (15, .iload_n 1, 16, []), (16, .bipush 12, 18, []), (18, .imul, 19, []), (19, .iload_n 2, 20, []), (20, .iadd, 21, []), (21, .iaload, 22, []), (22, .goto 4, 25, [26]), (25, .iconst (-1), 26, []), (26, .ireturn, 27, [])]
set_option maxRecDepth 200000 in
theorem tc_X9_arrives : T_X9_arrives.all (chk cX9_arrives) = true := by decide +kernel
def f_X9_arrives (N : Nat) (a1 : Int32) (a2 : Int32) (σ : Wd) : Option (Int32 × Wd) :=
  (f_X9_isInput N a1 a2 σ).bind fun p1 => if p1.1 = 0 then (some ((-1), p1.2)) else ((xld p1.2 31 25 ((a1 * 12) + a2)).bind fun v2 => some (v2, p1.2))
def a_X9_arrives (N : Nat) : List Value → Wd → Option (Int32 × Wd) := fun as σ => kSE 0 as (fun r0 => kSI r0 (fun b1 r1 => kSI r1 (fun b2 r2 => kS0 r2 (f_X9_arrives N b1 b2 σ)))) (none)
def ct_X9_arrives (N : Nat) : List (Nat × Cal) := [(142, 2, 0, .inl (a_X9_isInput N))]
set_option maxRecDepth 200000 in
theorem md_X9_arrives (N : Nat) : MDOK T_X9_arrives ft_X9 lt_X9 (ct_X9_arrives N) cX9_arrives RX9 2 := ⟨tc_X9_arrives, fc_X9, lc_X9, List.forall_mem_cons.mpr ⟨Or.inl ⟨yX9_isInput, cX9_isInput, 2, (some .boolean), 1, k_X9_142, Nat.le_of_ble_eq_true rfl, C_X9_isInput N⟩, (fun _ z => absurd z List.not_mem_nil)⟩⟩
set_option maxRecDepth 200000 in
theorem C_X9_arrives (N : Nat) : CTI 2 yX9_arrives cX9_arrives 3 (some .int) (a_X9_arrives N) := by
  refine CTI.of (own := RX9) (by decide) rfl (fun as σ r h => ?_)
  unfold a_X9_arrives at h
  rcases kSE_s h with ⟨r0, rfl, h0⟩ | hn
  ·
    obtain ⟨b1, r1, rfl, h1⟩ := kSI_s h0
    obtain ⟨b2, r2, rfl, h2⟩ := kSI_s h1
    obtain ⟨rfl, h9⟩ := kS0_s h2
    exact ⟨Nat.le_of_ble_eq_true rfl, by refine GO.to (md_X9_arrives N) (kl := []) ((fun _ z => absurd z List.not_mem_nil)) 21 ?_ ?_ <;> rfl⟩
  cases hn
def T_X9_longest : List (Nat × Ent) := [(0, .iload 4, 2, []), (2, .iconst 1, 3, []), (3, .if_icmp .lt 32, 6, [35]), (6, .iload 4, 8, []), (8, .bipush 12, 10, []), (10, .if_icmp .gt 25, 13, [35]), (13, .iload_n 1, 14, []), (14, .iload_n 2, 15, []), (15, .iload_n 3, 16, []), (16, .iload 4, 18, []), (18, .invokestatic 186, 21, []), (21, .ifCond .eq 14, 24, [35]), (24, .iload 5, 26, []), (26, .ifCond .lt 9, 29, [35]), (29, .iload 5, 31, []), (31, .iconst 1, 32, []), (32, .if_icmp .le 5, 35, [37]), (35, .iconst (-1), 36, []), (36, .ireturn, 37, []), (37, .iload_n 3, 38, []), (38, .iconst 1, 39, []), (39, .isub, 40, []), (40, .istore 6, 42, []), (42, .iconst 0, 43, []), (43, .istore 7, 45, []), (45, .iload 6, 47, []), (47, .istore 8, 49, []), (49, .iconst 0, 50, []), (50, .istore 9, 52, []), (52, .iconst 0, 53, []), (53, .istore 10, 55, []), (55, .iload 10, 57, []), (57, .iload 4, 59, []), (59, .if_icmp .ge 74, 62, [133]), (62, .iload_n 1, 63, []), (63, .iload 10, 65, []), (65, .ishr, 66, []), (66, .iconst 1, 67, []), (67, .iand, 68, []), (68, .iload_n 2, 69, []), (69, .iload 10, 71, []), (71, .ishr, 72, []), (72, .iconst 1, 73, []), (73, .iand, 74, []), (74, .iadd, 75, []), (75, .istore 11, 77, []), (77, .iload 11, 79, []), (79, .iconst 2, 80, []), (80, .if_icmp .ne 13, 83, [93]), (83, .iconst 0, 84, []), (84, .istore 6, 86, []), (86, .iload 10, 88, []), (88, .istore 7, 90, []), (90, .goto 22, 93, [112]), (93, .iload 11, 95, []), (95, .ifCond .ne 9, 98, [104]), (98, .iconst (-1), 99, []), (99, .istore 6, 101, []), (101, .goto 11, 104, [112]), (104, .iload 6, 106, []), (106, .ifCond .lt 6, 109, [112]), (109, .iinc 6 1, 112, []), (112, .iload 6, 114, []), (114, .iload 8, 116, []), (116, .if_icmp .le 11, 119, [127]), (119, .iload 6, 121, []), (121, .istore 8, 123, []), (123, .iload 7, 125, []), (125, .istore 9, 127, []), (127, .iinc 10 1, 130, []), (130, .goto (-75), 133, [55]), (133, .iload 5, 135, []), (135, .ifCond .ne 10, 138, [145]), (138, .iload 8, 140, []), (140, .iconst 0, 141, []), (141, .invokestatic 235, 144, []), (144, .ireturn, 145, []), (145, .iload 8, 147, []), (147, .ifCond .ge 8, 150, [155]), (150, .bipush (-2), 152, []), (152, .goto 5, 155, [157]), (155, .iload 9, 157, []), (157, .ireturn, 158, [])]
set_option maxRecDepth 200000 in
theorem tc_X9_longest : T_X9_longest.all (chk cX9_longest) = true := by decide +kernel
def f_X9_longest_J112 (N : Nat) (KB : Int32 → Int32 → Int32 → Int32 → Int32 → Int32 → Int32 → Int32 → Int32 → Wd → Option (Int32 × Wd)) (KO133 : Int32 → Int32 → Int32 → Wd → Option (Int32 × Wd)) (x1 : Int32) (x2 : Int32) (x4 : Int32) (x5 : Int32) (x6 : Int32) (x7 : Int32) (x8 : Int32) (x9 : Int32) (x10 : Int32) (σ : Wd) : Option (Int32 × Wd) :=
  if x6 ≤ x8 then (KB x1 x2 x4 x5 x6 x7 x8 x9 (x10 + 1) σ) else (KB x1 x2 x4 x5 x6 x7 x6 x7 (x10 + 1) σ)
def f_X9_longest_L55 (N : Nat) (KO133 : Int32 → Int32 → Int32 → Wd → Option (Int32 × Wd)) : Nat → Int32 → Int32 → Int32 → Int32 → Int32 → Int32 → Int32 → Int32 → Int32 → Wd → Option (Int32 × Wd)
  | 0, _, _, _, _, _, _, _, _, _, _ => none
  | n + 1, x1, x2, x4, x5, x6, x7, x8, x9, x10, σ => if x4 ≤ x10 then (KO133 x5 x8 x9 σ) else (if (((x1 >>> (x10 &&& 31)) &&& 1) + ((x2 >>> (x10 &&& 31)) &&& 1)) = 2 then (f_X9_longest_J112 N (f_X9_longest_L55 N KO133 n) KO133 x1 x2 x4 x5 0 x10 x8 x9 x10 σ) else (if (((x1 >>> (x10 &&& 31)) &&& 1) + ((x2 >>> (x10 &&& 31)) &&& 1)) = 0 then (f_X9_longest_J112 N (f_X9_longest_L55 N KO133 n) KO133 x1 x2 x4 x5 (-1) x7 x8 x9 x10 σ) else (if x6 < 0 then (f_X9_longest_J112 N (f_X9_longest_L55 N KO133 n) KO133 x1 x2 x4 x5 x6 x7 x8 x9 x10 σ) else (f_X9_longest_J112 N (f_X9_longest_L55 N KO133 n) KO133 x1 x2 x4 x5 (x6 + 1) x7 x8 x9 x10 σ))))
def f_X9_longest_J133 (N : Nat) (x5 : Int32) (x8 : Int32) (x9 : Int32) (σ : Wd) : Option (Int32 × Wd) :=
  if x5 = 0 then ((f_J9_max_7cf53 N x8 0 σ).bind fun p2 => some (p2.1, p2.2)) else (if 0 ≤ x8 then (some (x9, σ)) else (some ((-2), σ)))
def f_X9_longest (N : Nat) (a1 : Int32) (a2 : Int32) (a3 : Int32) (a4 : Int32) (a5 : Int32) (σ : Wd) : Option (Int32 × Wd) :=
  if a4 < 1 then (some ((-1), σ)) else (if 12 < a4 then (some ((-1), σ)) else ((f_X9_areNumbers N a1 a2 a3 a4 σ).bind fun p1 => if p1.1 = 0 then (some ((-1), p1.2)) else (if a5 < 0 then (some ((-1), p1.2)) else (if a5 ≤ 1 then (f_X9_longest_L55 N (f_X9_longest_J133 N) N a1 a2 a4 a5 (a3 - 1) 0 (a3 - 1) 0 0 p1.2) else (some ((-1), p1.2))))))
def a_X9_longest (N : Nat) : List Value → Wd → Option (Int32 × Wd) := fun as σ => kSE 0 as (fun r0 => kSI r0 (fun b1 r1 => kSI r1 (fun b2 r2 => kSI r2 (fun b3 r3 => kSI r3 (fun b4 r4 => kSI r4 (fun b5 r5 => kS0 r5 (f_X9_longest N b1 b2 b3 b4 b5 σ))))))) (none)
set_option maxRecDepth 200000 in
theorem k_X9_186 : calchk RX9 186 4 0 yX9_areNumbers cX9_areNumbers 5 (some .boolean) = true := by decide +kernel
set_option maxRecDepth 200000 in
theorem k_X9_235 : mmchk RX9 235 Lib.Math.max.name Lib.Math.max.code = true := by decide +kernel
def ct_X9_longest (N : Nat) : List (Nat × Cal) := [(186, 4, 0, .inl (a_X9_areNumbers N)), (235, 2, 0, .inl amax)]
set_option maxRecDepth 200000 in
theorem md_X9_longest (N : Nat) : MDOK T_X9_longest ft_X9 lt_X9 (ct_X9_longest N) cX9_longest RX9 2 := ⟨tc_X9_longest, fc_X9, lc_X9, List.forall_mem_cons.mpr ⟨Or.inl ⟨yX9_areNumbers, cX9_areNumbers, 5, (some .boolean), 1, k_X9_186, Nat.le_of_ble_eq_true rfl, C_X9_areNumbers N⟩, List.forall_mem_cons.mpr ⟨Or.inr (Or.inl ⟨rfl, k_X9_235, Nat.le_of_ble_eq_true rfl⟩), (fun _ z => absurd z List.not_mem_nil)⟩⟩⟩
set_option maxRecDepth 200000 in
theorem g_X9_longest_J112 (N : Nat) (KB : Int32 → Int32 → Int32 → Int32 → Int32 → Int32 → Int32 → Int32 → Int32 → Wd → Option (Int32 × Wd)) (hKB : ∀ (x1 : Int32) (x2 : Int32) (x4 : Int32) (x5 : Int32) (x6 : Int32) (x7 : Int32) (x8 : Int32) (x9 : Int32) (x10 : Int32) (σ : Wd), GO cX9_longest RX9 12 2 sc0 rI nJ0 nV0 (KB x1 x2 x4 x5 x6 x7 x8 x9 x10 σ) 55 (mkp 0 12 [(1, .int x1), (2, .int x2), (4, .int x4), (5, .int x5), (6, .int x6), (7, .int x7), (8, .int x8), (9, .int x9), (10, .int x10)]) [] σ) (KO133 : Int32 → Int32 → Int32 → Wd → Option (Int32 × Wd)) (hKO133 : ∀ (x5 : Int32) (x8 : Int32) (x9 : Int32) (σ : Wd), GO cX9_longest RX9 12 2 sc0 rI nJ0 nV0 (KO133 x5 x8 x9 σ) 133 (mkp 0 12 [(5, .int x5), (8, .int x8), (9, .int x9)]) [] σ) (x1 : Int32) (x2 : Int32) (x4 : Int32) (x5 : Int32) (x6 : Int32) (x7 : Int32) (x8 : Int32) (x9 : Int32) (x10 : Int32) (σ : Wd) : GO cX9_longest RX9 12 2 sc0 rI nJ0 nV0 (f_X9_longest_J112 N KB KO133 x1 x2 x4 x5 x6 x7 x8 x9 x10 σ) 112 (mkp 0 12 [(1, .int x1), (2, .int x2), (4, .int x4), (5, .int x5), (6, .int x6), (7, .int x7), (8, .int x8), (9, .int x9), (10, .int x10)]) [] σ := by
  exact (by refine GO.to (md_X9_longest N) (kl := [(55, fun vs st σ => kS0 st (kI 1 vs (fun x1 => kI 2 vs (fun x2 => kI 4 vs (fun x4 => kI 5 vs (fun x5 => kI 6 vs (fun x6 => kI 7 vs (fun x7 => kI 8 vs (fun x8 => kI 9 vs (fun x9 => kI 10 vs (fun x10 => KB x1 x2 x4 x5 x6 x7 x8 x9 x10 σ)))))))))))]) (List.forall_mem_cons.mpr ⟨fun vs st σ => go_kS0 (go_kI (fun x1 h1 => go_kI (fun x2 h2 => go_kI (fun x4 h4 => go_kI (fun x5 h5 => go_kI (fun x6 h6 => go_kI (fun x7 h7 => go_kI (fun x8 h8 => go_kI (fun x9 h9 => go_kI (fun x10 h10 => GO.pat [(1, .int x1), (2, .int x2), (4, .int x4), (5, .int x5), (6, .int x6), (7, .int x7), (8, .int x8), (9, .int x9), (10, .int x10)] ⟨h1, h2, h4, h5, h6, h7, h8, h9, h10, trivial⟩ (hKB x1 x2 x4 x5 x6 x7 x8 x9 x10 σ))))))))))), (fun _ z => absurd z List.not_mem_nil)⟩) 88 ?_ ?_ <;> rfl)
set_option maxRecDepth 200000 in
theorem g_X9_longest_L55 (N : Nat) (KO133 : Int32 → Int32 → Int32 → Wd → Option (Int32 × Wd)) (hKO133 : ∀ (x5 : Int32) (x8 : Int32) (x9 : Int32) (σ : Wd), GO cX9_longest RX9 12 2 sc0 rI nJ0 nV0 (KO133 x5 x8 x9 σ) 133 (mkp 0 12 [(5, .int x5), (8, .int x8), (9, .int x9)]) [] σ) : ∀ (n : Nat), ∀ (x1 : Int32) (x2 : Int32) (x4 : Int32) (x5 : Int32) (x6 : Int32) (x7 : Int32) (x8 : Int32) (x9 : Int32) (x10 : Int32) (σ : Wd), GO cX9_longest RX9 12 2 sc0 rI nJ0 nV0 (f_X9_longest_L55 N KO133 n x1 x2 x4 x5 x6 x7 x8 x9 x10 σ) 55 (mkp 0 12 [(1, .int x1), (2, .int x2), (4, .int x4), (5, .int x5), (6, .int x6), (7, .int x7), (8, .int x8), (9, .int x9), (10, .int x10)]) [] σ
  | 0, x1, x2, x4, x5, x6, x7, x8, x9, x10, σ => GO.none
  | n + 1, x1, x2, x4, x5, x6, x7, x8, x9, x10, σ => by
    exact (by refine GO.to (md_X9_longest N) (kl := [(133, fun vs st σ => kS0 st (kI 5 vs (fun x5 => kI 8 vs (fun x8 => kI 9 vs (fun x9 => KO133 x5 x8 x9 σ))))), (112, fun vs st σ => kS0 st (kI 1 vs (fun x1 => kI 2 vs (fun x2 => kI 4 vs (fun x4 => kI 5 vs (fun x5 => kI 6 vs (fun x6 => kI 7 vs (fun x7 => kI 8 vs (fun x8 => kI 9 vs (fun x9 => kI 10 vs (fun x10 => f_X9_longest_J112 N (f_X9_longest_L55 N KO133 n) KO133 x1 x2 x4 x5 x6 x7 x8 x9 x10 σ)))))))))))]) (List.forall_mem_cons.mpr ⟨fun vs st σ => go_kS0 (go_kI (fun x5 h5 => go_kI (fun x8 h8 => go_kI (fun x9 h9 => GO.pat [(5, .int x5), (8, .int x8), (9, .int x9)] ⟨h5, h8, h9, trivial⟩ (hKO133 x5 x8 x9 σ))))), List.forall_mem_cons.mpr ⟨fun vs st σ => go_kS0 (go_kI (fun x1 h1 => go_kI (fun x2 h2 => go_kI (fun x4 h4 => go_kI (fun x5 h5 => go_kI (fun x6 h6 => go_kI (fun x7 h7 => go_kI (fun x8 h8 => go_kI (fun x9 h9 => go_kI (fun x10 h10 => GO.pat [(1, .int x1), (2, .int x2), (4, .int x4), (5, .int x5), (6, .int x6), (7, .int x7), (8, .int x8), (9, .int x9), (10, .int x10)] ⟨h1, h2, h4, h5, h6, h7, h8, h9, h10, trivial⟩ (g_X9_longest_J112 N (f_X9_longest_L55 N KO133 n) (g_X9_longest_L55 N KO133 hKO133 n) KO133 hKO133 x1 x2 x4 x5 x6 x7 x8 x9 x10 σ))))))))))), (fun _ z => absurd z List.not_mem_nil)⟩⟩) 88 ?_ ?_ <;> rfl)
set_option maxRecDepth 200000 in
theorem g_X9_longest_J133 (N : Nat) (x5 : Int32) (x8 : Int32) (x9 : Int32) (σ : Wd) : GO cX9_longest RX9 12 2 sc0 rI nJ0 nV0 (f_X9_longest_J133 N x5 x8 x9 σ) 133 (mkp 0 12 [(5, .int x5), (8, .int x8), (9, .int x9)]) [] σ := by
  exact (by refine GO.to (md_X9_longest N) (kl := []) ((fun _ z => absurd z List.not_mem_nil)) 88 ?_ ?_ <;> rfl)
set_option maxRecDepth 200000 in
theorem C_X9_longest (N : Nat) : CTI 2 yX9_longest cX9_longest 12 (some .int) (a_X9_longest N) := by
  refine CTI.of (own := RX9) (by decide) rfl (fun as σ r h => ?_)
  unfold a_X9_longest at h
  rcases kSE_s h with ⟨r0, rfl, h0⟩ | hn
  ·
    obtain ⟨b1, r1, rfl, h1⟩ := kSI_s h0
    obtain ⟨b2, r2, rfl, h2⟩ := kSI_s h1
    obtain ⟨b3, r3, rfl, h3⟩ := kSI_s h2
    obtain ⟨b4, r4, rfl, h4⟩ := kSI_s h3
    obtain ⟨b5, r5, rfl, h5⟩ := kSI_s h4
    obtain ⟨rfl, h9⟩ := kS0_s h5
    exact ⟨Nat.le_of_ble_eq_true rfl, by refine GO.to (md_X9_longest N) (kl := [(55, fun vs st σ => kS0 st (kI 1 vs (fun x1 => kI 2 vs (fun x2 => kI 4 vs (fun x4 => kI 5 vs (fun x5 => kI 6 vs (fun x6 => kI 7 vs (fun x7 => kI 8 vs (fun x8 => kI 9 vs (fun x9 => kI 10 vs (fun x10 => f_X9_longest_L55 N (f_X9_longest_J133 N) N x1 x2 x4 x5 x6 x7 x8 x9 x10 σ)))))))))))]) (List.forall_mem_cons.mpr ⟨fun vs st σ => go_kS0 (go_kI (fun x1 h1 => go_kI (fun x2 h2 => go_kI (fun x4 h4 => go_kI (fun x5 h5 => go_kI (fun x6 h6 => go_kI (fun x7 h7 => go_kI (fun x8 h8 => go_kI (fun x9 h9 => go_kI (fun x10 h10 => GO.pat [(1, .int x1), (2, .int x2), (4, .int x4), (5, .int x5), (6, .int x6), (7, .int x7), (8, .int x8), (9, .int x9), (10, .int x10)] ⟨h1, h2, h4, h5, h6, h7, h8, h9, h10, trivial⟩ (g_X9_longest_L55 N (f_X9_longest_J133 N) (g_X9_longest_J133 N) N x1 x2 x4 x5 x6 x7 x8 x9 x10 σ))))))))))), (fun _ z => absurd z List.not_mem_nil)⟩) 88 ?_ ?_ <;> rfl⟩
  cases hn
def T_X9_shelve : List (Nat × Ent) := [(0, .iload_n 1, 1, []), (1, .invokestatic 245, 4, []), (4, .ifCond .eq 19, 7, [23]), (7, .iload_n 2, 8, []), (8, .iconst (-1), 9, []), (9, .if_icmp .eq 16, 12, [25]), (12, .aload_n 0, 13, []), (13, .getfield 21, 16, []), (16, .iload_n 2, 17, []), (17, .invokevirtual 104, 20, []), (20, .ifCond .ne 5, 23, [25]), (23, .iconst (-1), 24, []), (24, .ireturn, 25, []), (25, .iload_n 2, 26, []), (26, .iconst (-1), 27, []), (27, .if_icmp .ne 16, 30, [43]), (30, .aload_n 0, 31, []), (31, .getfield 62, 34, []), (34, .iload_n 1, 35, []), (35, .aaload, 36, []), (36, .iconst (-1), 37, []), (37, .putfield 248, 40, []), (40, .goto 21, 43, [61]), (43, .aload_n 0, 44, []), (44, .getfield 62, 47, []), (47, .iload_n 1, 48, []), (48, .aaload, 49, []), (49, .aload_n 0, 50, []), (50, .getfield 21, 53, []), (53, .getfield 114, 56, []), (56, .iload_n 2, 57, []), (57, .laload, 58, []), (58, .invokevirtual 251, 61, []), (61, .iconst 1, 62, []), (62, .ireturn, 63, [])]
set_option maxRecDepth 200000 in
theorem tc_X9_shelve : T_X9_shelve.all (chk cX9_shelve) = true := by decide +kernel
def f_X9_shelve_J25 (N : Nat) (x1 : Int32) (x2 : Int32) (σ : Wd) : Option (Int32 × Wd) :=
  if x2 = (-1) then (xsh x1 fun k2 => let σ3 : Wd := sF σ k2 1 (-1)
  some (1, σ3)) else (xsh x1 fun k4 => (xldL σ 16 12 x2).bind fun v5 => (f_X5_holdBlocks N k4 v5 σ).bind fun σ6 => some (1, σ6))
def f_X9_shelve (N : Nat) (a1 : Int32) (a2 : Int32) (σ : Wd) : Option (Int32 × Wd) :=
  (f_X9_isShelf N a1 σ).bind fun p1 => if p1.1 = 0 then (some ((-1), p1.2)) else (if a2 = (-1) then (f_X9_shelve_J25 N a1 a2 p1.2) else ((f_X3_has N a2 p1.2).bind fun p7 => if p7.1 = 0 then (some ((-1), p7.2)) else (f_X9_shelve_J25 N a1 a2 p7.2)))
def a_X9_shelve (N : Nat) : List Value → Wd → Option (Int32 × Wd) := fun as σ => kSE 0 as (fun r0 => kSI r0 (fun b1 r1 => kSI r1 (fun b2 r2 => kS0 r2 (f_X9_shelve N b1 b2 σ)))) (none)
set_option maxRecDepth 200000 in
theorem k_X9_245 : calchk RX9 245 1 0 yX9_isShelf cX9_isShelf 1 (some .boolean) = true := by decide +kernel
set_option maxRecDepth 200000 in
theorem k_X9_251 : calchk RX9 251 2 5 yX5_holdBlocks cX5_holdBlocks 3 none = true := by decide +kernel
def ct_X9_shelve (N : Nat) : List (Nat × Cal) := [(245, 1, 0, .inl (a_X9_isShelf N)), (251, 2, 5, .inr (.inr (a_X5_holdBlocks N))), (104, 2, 3, .inl (a_X3_has N))]
set_option maxRecDepth 200000 in
theorem md_X9_shelve (N : Nat) : MDOK T_X9_shelve ft_X9 lt_X9 (ct_X9_shelve N) cX9_shelve RX9 2 := ⟨tc_X9_shelve, fc_X9, lc_X9, List.forall_mem_cons.mpr ⟨Or.inl ⟨yX9_isShelf, cX9_isShelf, 1, (some .boolean), 1, k_X9_245, Nat.le_of_ble_eq_true rfl, C_X9_isShelf N⟩, List.forall_mem_cons.mpr ⟨Or.inl ⟨yX5_holdBlocks, cX5_holdBlocks, 3, none, 1, k_X9_251, Nat.le_of_ble_eq_true rfl, C_X5_holdBlocks N⟩, List.forall_mem_cons.mpr ⟨Or.inl ⟨yX3_has, cX3_has, 2, (some .boolean), 1, k_X9_104, Nat.le_of_ble_eq_true rfl, C_X3_has N⟩, (fun _ z => absurd z List.not_mem_nil)⟩⟩⟩⟩
set_option maxRecDepth 200000 in
theorem g_X9_shelve_J25 (N : Nat) (x1 : Int32) (x2 : Int32) (σ : Wd) : GO cX9_shelve RX9 3 2 sc0 rI nJ0 nV0 (f_X9_shelve_J25 N x1 x2 σ) 25 (mkp 0 3 [(0, .ref 0), (1, .int x1), (2, .int x2)]) [] σ := by
  exact (by refine GO.to (md_X9_shelve N) (kl := []) ((fun _ z => absurd z List.not_mem_nil)) 40 ?_ ?_ <;> rfl)
set_option maxRecDepth 200000 in
theorem C_X9_shelve (N : Nat) : CTI 2 yX9_shelve cX9_shelve 3 (some .int) (a_X9_shelve N) := by
  refine CTI.of (own := RX9) (by decide) rfl (fun as σ r h => ?_)
  unfold a_X9_shelve at h
  rcases kSE_s h with ⟨r0, rfl, h0⟩ | hn
  ·
    obtain ⟨b1, r1, rfl, h1⟩ := kSI_s h0
    obtain ⟨b2, r2, rfl, h2⟩ := kSI_s h1
    obtain ⟨rfl, h9⟩ := kS0_s h2
    exact ⟨Nat.le_of_ble_eq_true rfl, by refine GO.to (md_X9_shelve N) (kl := [(25, fun vs st σ => kS0 st (kA 0 0 vs (kI 1 vs (fun x1 => kI 2 vs (fun x2 => f_X9_shelve_J25 N x1 x2 σ)))))]) (List.forall_mem_cons.mpr ⟨fun vs st σ => go_kS0 (go_kA (fun h0 => go_kI (fun x1 h1 => go_kI (fun x2 h2 => GO.pat [(0, .ref 0), (1, .int x1), (2, .int x2)] ⟨h0, h1, h2, trivial⟩ (g_X9_shelve_J25 N x1 x2 σ))))), (fun _ z => absurd z List.not_mem_nil)⟩) 40 ?_ ?_ <;> rfl⟩
  cases hn
def T_X9_row : List (Nat × Ent) := [(0, .iload_n 1, 1, []), (1, .invokestatic 245, 4, []), (4, .ifCond .eq 18, 7, [22]), (7, .iload_n 2, 8, []), (8, .ifCond .lt 14, 11, [22]), (11, .iload_n 2, 12, []), (12, .iconst 1, 13, []), (13, .if_icmp .gt 9, 16, [22]), (16, .iload_n 3, 17, []), (17, .bipush 20, 19, []), (19, .if_icmp .le 5, 22, [24]), (22, .iconst (-1), 23, []), (23, .ireturn, 24, []), (24, .iload_n 3, 25, []), (25, .ifCond .ge 6, 28, [31]), (28, .bipush (-14), 30, []), (30, .ireturn, 31, []), (31, .aload_n 0, 32, []), (32, .getfield 62, 35, []), (35, .iload_n 1, 36, []), (36, .aaload, 37, []), (37, .iload_n 2, 38, []), (38, .iload_n 3, 39, []), (39, .invokevirtual 259, 42, []), (42, .iconst 1, 43, []), (43, .ireturn, 44, [])]
set_option maxRecDepth 200000 in
theorem tc_X9_row : T_X9_row.all (chk cX9_row) = true := by decide +kernel
def f_X9_row (N : Nat) (a1 : Int32) (a2 : Int32) (a3 : Int32) (σ : Wd) : Option (Int32 × Wd) :=
  (f_X9_isShelf N a1 σ).bind fun p1 => if p1.1 = 0 then (some ((-1), p1.2)) else (if a2 < 0 then (some ((-1), p1.2)) else (if 1 < a2 then (some ((-1), p1.2)) else (if a3 ≤ 20 then (if 0 ≤ a3 then (xsh a1 fun k2 => (f_X5_holdRow N k2 a2 a3 p1.2).bind fun σ3 => some (1, σ3)) else (some ((-14), p1.2))) else (some ((-1), p1.2)))))
def a_X9_row (N : Nat) : List Value → Wd → Option (Int32 × Wd) := fun as σ => kSE 0 as (fun r0 => kSI r0 (fun b1 r1 => kSI r1 (fun b2 r2 => kSI r2 (fun b3 r3 => kS0 r3 (f_X9_row N b1 b2 b3 σ))))) (none)
set_option maxRecDepth 200000 in
theorem k_X9_259 : calchk RX9 259 3 5 yX5_holdRow cX5_holdRow 4 none = true := by decide +kernel
def ct_X9_row (N : Nat) : List (Nat × Cal) := [(245, 1, 0, .inl (a_X9_isShelf N)), (259, 3, 5, .inr (.inr (a_X5_holdRow N)))]
set_option maxRecDepth 200000 in
theorem md_X9_row (N : Nat) : MDOK T_X9_row ft_X9 lt_X9 (ct_X9_row N) cX9_row RX9 2 := ⟨tc_X9_row, fc_X9, lc_X9, List.forall_mem_cons.mpr ⟨Or.inl ⟨yX9_isShelf, cX9_isShelf, 1, (some .boolean), 1, k_X9_245, Nat.le_of_ble_eq_true rfl, C_X9_isShelf N⟩, List.forall_mem_cons.mpr ⟨Or.inl ⟨yX5_holdRow, cX5_holdRow, 4, none, 1, k_X9_259, Nat.le_of_ble_eq_true rfl, C_X5_holdRow N⟩, (fun _ z => absurd z List.not_mem_nil)⟩⟩⟩
set_option maxRecDepth 200000 in
theorem C_X9_row (N : Nat) : CTI 2 yX9_row cX9_row 4 (some .int) (a_X9_row N) := by
  refine CTI.of (own := RX9) (by decide) rfl (fun as σ r h => ?_)
  unfold a_X9_row at h
  rcases kSE_s h with ⟨r0, rfl, h0⟩ | hn
  ·
    obtain ⟨b1, r1, rfl, h1⟩ := kSI_s h0
    obtain ⟨b2, r2, rfl, h2⟩ := kSI_s h1
    obtain ⟨b3, r3, rfl, h3⟩ := kSI_s h2
    obtain ⟨rfl, h9⟩ := kS0_s h3
    exact ⟨Nat.le_of_ble_eq_true rfl, by refine GO.to (md_X9_row N) (kl := []) ((fun _ z => absurd z List.not_mem_nil)) 31 ?_ ?_ <;> rfl⟩
  cases hn
def T_X9_put : List (Nat × Ent) := [(0, .iload_n 1, 1, []), (1, .invokestatic 245, 4, []), (4, .ifCond .ne 5, 7, [9]), (7, .iconst (-1), 8, []), (8, .ireturn, 9, []), (9, .aload_n 0, 10, []), (10, .getfield 62, 13, []), (13, .iload_n 1, 14, []), (14, .aaload, 15, []), (15, .astore 5, 17, []), (17, .aload 5, 19, []), (19, .invokevirtual 263, 22, []), (22, .ifCond .ne 20, 25, [42]), (25, .aload 5, 27, []), (27, .getfield 248, 30, []), (30, .iconst (-1), 31, []), (31, .if_icmp .ne 8, 34, [39]), (34, .bipush (-11), 36, []), (36, .goto 5, 39, [41]), (39, .bipush (-12), 41, []), (41, .ireturn, 42, []), (42, .iload_n 2, 43, []), (43, .ifCond .lt 12, 46, [55]), (46, .iload_n 2, 47, []), (47, .aload 5, 49, []), (49, .getfield 267, 52, []), (52, .if_icmp .lt 6, 55, [58]), (55, .bipush (-13), 57, []), (57, .ireturn, 58, []), (58, .aload 5, 60, []), (60, .getfield 270, 63, []), (63, .iload_n 2, 64, []), (64, .aload 5, 66, []), (66, .getfield 248, 69, []), (69, .iconst 1, 70, []), (70, .if_icmp .ne 10, 73, [80]), (73, .lload_n 3, 74, []), (74, .l2i, 75, []), (75, .i2b, 76, []), (76, .i2l, 77, []), (77, .goto 4, 80, [81]), (80, .lload_n 3, 81, []), (81, .lastore, 82, []), (82, .iconst 1, 83, []), (83, .ireturn, 84, [])]
set_option maxRecDepth 200000 in
theorem tc_X9_put : T_X9_put.all (chk cX9_put) = true := by decide +kernel
def f_X9_put (N : Nat) (a1 : Int32) (a2 : Int32) (a3 : Int64) (σ : Wd) : Option (Int32 × Wd) :=
  (f_X9_isShelf N a1 σ).bind fun p1 => if p1.1 = 0 then (some ((-1), p1.2)) else (xsh a1 fun k2 => (f_X5_isRow N k2 p1.2).bind fun p3 => if p3.1 = 0 then (if (p3.2.1 k2 1) = (-1) then (some ((-11), p3.2)) else (some ((-12), p3.2))) else (if a2 < 0 then (some ((-13), p3.2)) else (if a2 < (p3.2.1 k2 2) then (if (p3.2.1 k2 1) = 1 then ((xstL p3.2 (k2 + 28) 20 a2 (Int32.toInt64 ((Int32.toInt8 (Int64.toInt32 a3)).toInt32))).bind fun σ4 => some (1, σ4)) else ((xstL p3.2 (k2 + 28) 20 a2 a3).bind fun σ5 => some (1, σ5))) else (some ((-13), p3.2)))))
def a_X9_put (N : Nat) : List Value → Wd → Option (Int32 × Wd) := fun as σ => kSE 0 as (fun r0 => kSI r0 (fun b1 r1 => kSI r1 (fun b2 r2 => kSJ r2 (fun b3 r3 => kS0 r3 (f_X9_put N b1 b2 b3 σ))))) (none)
set_option maxRecDepth 200000 in
theorem k_X9_263 : calchk RX9 263 1 5 yX5_isRow cX5_isRow 1 (some .boolean) = true := by decide +kernel
def ct_X9_put (N : Nat) : List (Nat × Cal) := [(245, 1, 0, .inl (a_X9_isShelf N)), (263, 1, 5, .inl (a_X5_isRow N))]
set_option maxRecDepth 200000 in
theorem md_X9_put (N : Nat) : MDOK T_X9_put ft_X9 lt_X9 (ct_X9_put N) cX9_put RX9 2 := ⟨tc_X9_put, fc_X9, lc_X9, List.forall_mem_cons.mpr ⟨Or.inl ⟨yX9_isShelf, cX9_isShelf, 1, (some .boolean), 1, k_X9_245, Nat.le_of_ble_eq_true rfl, C_X9_isShelf N⟩, List.forall_mem_cons.mpr ⟨Or.inl ⟨yX5_isRow, cX5_isRow, 1, (some .boolean), 1, k_X9_263, Nat.le_of_ble_eq_true rfl, C_X5_isRow N⟩, (fun _ z => absurd z List.not_mem_nil)⟩⟩⟩
set_option maxRecDepth 200000 in
theorem C_X9_put (N : Nat) : CTI 2 yX9_put cX9_put 6 (some .int) (a_X9_put N) := by
  refine CTI.of (own := RX9) (by decide) rfl (fun as σ r h => ?_)
  unfold a_X9_put at h
  rcases kSE_s h with ⟨r0, rfl, h0⟩ | hn
  ·
    obtain ⟨b1, r1, rfl, h1⟩ := kSI_s h0
    obtain ⟨b2, r2, rfl, h2⟩ := kSI_s h1
    obtain ⟨b3, r3, rfl, h3⟩ := kSJ_s h2
    obtain ⟨rfl, h9⟩ := kS0_s h3
    exact ⟨Nat.le_of_ble_eq_true rfl, by refine GO.to (md_X9_put N) (kl := []) ((fun _ z => absurd z List.not_mem_nil)) 50 ?_ ?_ <;> rfl⟩
  cases hn
def T_X9_get : List (Nat × Ent) := [(0, .iload_n 1, 1, []), (1, .invokestatic 245, 4, []), (4, .ifCond .ne 7, 7, [11]), (7, .ldc2_w 241, 10, []), (10, .lreturn, 11, []), (11, .aload_n 0, 12, []), (12, .getfield 62, 15, []), (15, .iload_n 1, 16, []), (16, .aaload, 17, []), (17, .astore_n 3, 18, []), (18, .aload_n 3, 19, []), (19, .invokevirtual 263, 22, []), (22, .ifCond .eq 24, 25, [46]), (25, .iload_n 2, 26, []), (26, .ifCond .lt 20, 29, [46]), (29, .iload_n 2, 30, []), (30, .aload_n 3, 31, []), (31, .getfield 267, 34, []), (34, .if_icmp .ge 12, 37, [46]), (37, .aload_n 3, 38, []), (38, .getfield 270, 41, []), (41, .iload_n 2, 42, []), (42, .laload, 43, []), (43, .goto 6, 46, [49]), (46, .ldc2_w 241, 49, []), (49, .lreturn, 50, [])]
set_option maxRecDepth 200000 in
theorem tc_X9_get : T_X9_get.all (chk cX9_get) = true := by decide +kernel
def f_X9_get (N : Nat) (a1 : Int32) (a2 : Int32) (σ : Wd) : Option (Int64 × Wd) :=
  (f_X9_isShelf N a1 σ).bind fun p1 => if p1.1 = 0 then (some ((-9223372036854775808), p1.2)) else (xsh a1 fun k2 => (f_X5_isRow N k2 p1.2).bind fun p3 => if p3.1 = 0 then (some ((-9223372036854775808), p3.2)) else (if a2 < 0 then (some ((-9223372036854775808), p3.2)) else (if (p3.2.1 k2 2) ≤ a2 then (some ((-9223372036854775808), p3.2)) else ((xldL p3.2 (k2 + 28) 20 a2).bind fun v4 => some (v4, p3.2)))))
def a_X9_get (N : Nat) : List Value → Wd → Option (Int64 × Wd) := fun as σ => kSE 0 as (fun r0 => kSI r0 (fun b1 r1 => kSI r1 (fun b2 r2 => kS0 r2 (f_X9_get N b1 b2 σ)))) (none)
def ct_X9_get (N : Nat) : List (Nat × Cal) := [(245, 1, 0, .inl (a_X9_isShelf N)), (263, 1, 5, .inl (a_X5_isRow N))]
set_option maxRecDepth 200000 in
theorem md_X9_get (N : Nat) : MDOK T_X9_get ft_X9 lt_X9 (ct_X9_get N) cX9_get RX9 2 := ⟨tc_X9_get, fc_X9, lc_X9, List.forall_mem_cons.mpr ⟨Or.inl ⟨yX9_isShelf, cX9_isShelf, 1, (some .boolean), 1, k_X9_245, Nat.le_of_ble_eq_true rfl, C_X9_isShelf N⟩, List.forall_mem_cons.mpr ⟨Or.inl ⟨yX5_isRow, cX5_isRow, 1, (some .boolean), 1, k_X9_263, Nat.le_of_ble_eq_true rfl, C_X5_isRow N⟩, (fun _ z => absurd z List.not_mem_nil)⟩⟩⟩
set_option maxRecDepth 200000 in
theorem C_X9_get (N : Nat) : CTL 2 yX9_get cX9_get 4 (some .long) (a_X9_get N) := by
  refine CTL.of (own := RX9) (by decide) rfl (fun as σ r h => ?_)
  unfold a_X9_get at h
  rcases kSE_s h with ⟨r0, rfl, h0⟩ | hn
  ·
    obtain ⟨b1, r1, rfl, h1⟩ := kSI_s h0
    obtain ⟨b2, r2, rfl, h2⟩ := kSI_s h1
    obtain ⟨rfl, h9⟩ := kS0_s h2
    exact ⟨Nat.le_of_ble_eq_true rfl, by refine GO.to (md_X9_get N) (kl := []) ((fun _ z => absurd z List.not_mem_nil)) 31 ?_ ?_ <;> rfl⟩
  cases hn
def T_X9_canChoose : List (Nat × Ent) := [(0, .iload_n 0, 1, []), (1, .iconst 1, 2, []), (2, .if_icmp .lt 43, 5, [45]), (5, .iload_n 0, 6, []), (6, .bipush 6, 8, []), (8, .if_icmp .gt 37, 11, [45]), (11, .iload_n 1, 12, []), (12, .iconst 1, 13, []), (13, .if_icmp .lt 32, 16, [45]), (16, .iload_n 1, 17, []), (17, .bipush 15, 19, []), (19, .if_icmp .gt 26, 22, [45]), (22, .iload_n 1, 23, []), (23, .invokestatic 302, 26, []), (26, .iconst 2, 27, []), (27, .if_icmp .gt 18, 30, [45]), (30, .iload_n 2, 31, []), (31, .ifCond .lt 14, 34, [45]), (34, .iload_n 2, 35, []), (35, .sipush 999, 38, []), (38, .if_icmp .gt 7, 41, [45]), (41, .iconst 1, 42, []), (42, .goto 4, 45, [46]), (45, .iconst 0, 46, []), (46, .ireturn, 47, [])]
set_option maxRecDepth 200000 in
theorem tc_X9_canChoose : T_X9_canChoose.all (chk cX9_canChoose) = true := by decide +kernel
def f_X9_canChoose (N : Nat) (a0 : Int32) (a1 : Int32) (a2 : Int32) (σ : Wd) : Option (Int32 × Wd) :=
  if a0 < 1 then (some (0, σ)) else (if 6 < a0 then (some (0, σ)) else (if a1 < 1 then (some (0, σ)) else (if 15 < a1 then (some (0, σ)) else ((f_J6_bitCount_0f7a4 N a1 σ).bind fun p1 => if 2 < p1.1 then (some (0, p1.2)) else (if a2 < 0 then (some (0, p1.2)) else (if 999 < a2 then (some (0, p1.2)) else (some (1, p1.2))))))))
def a_X9_canChoose (N : Nat) : List Value → Wd → Option (Int32 × Wd) := fun as σ => kSI as (fun b0 r0 => kSI r0 (fun b1 r1 => kSI r1 (fun b2 r2 => kS0 r2 (f_X9_canChoose N b0 b1 b2 σ))))
set_option maxRecDepth 200000 in
theorem k_X9_302 : calchk RX9 302 1 0 yJ6_bitCount_0f7a4 cJ6_bitCount_0f7a4 1 (some .int) = true := by decide +kernel
def ct_X9_canChoose (N : Nat) : List (Nat × Cal) := [(302, 1, 0, .inl (a_J6_bitCount_0f7a4 N))]
set_option maxRecDepth 200000 in
theorem md_X9_canChoose (N : Nat) : MDOK T_X9_canChoose ft_X9 lt_X9 (ct_X9_canChoose N) cX9_canChoose RX9 2 := ⟨tc_X9_canChoose, fc_X9, lc_X9, List.forall_mem_cons.mpr ⟨Or.inl ⟨yJ6_bitCount_0f7a4, cJ6_bitCount_0f7a4, 1, (some .int), 1, k_X9_302, Nat.le_of_ble_eq_true rfl, C_J6_bitCount_0f7a4 N⟩, (fun _ z => absurd z List.not_mem_nil)⟩⟩
set_option maxRecDepth 200000 in
theorem C_X9_canChoose (N : Nat) : CTI 2 yX9_canChoose cX9_canChoose 3 (some .boolean) (a_X9_canChoose N) := by
  refine CTZ.of (own := RX9) (by decide) rfl (fun as σ r h => ?_)
  unfold a_X9_canChoose at h
  obtain ⟨b0, r0, rfl, h0⟩ := kSI_s h
  obtain ⟨b1, r1, rfl, h1⟩ := kSI_s h0
  obtain ⟨b2, r2, rfl, h2⟩ := kSI_s h1
  obtain ⟨rfl, h9⟩ := kS0_s h2
  exact ⟨Nat.le_of_ble_eq_true rfl, by refine GO.to (md_X9_canChoose N) (kl := []) ((fun _ z => absurd z List.not_mem_nil)) 30 ?_ ?_ <;> rfl⟩
def T_X9_known : List (Nat × Ent) := [(0, .aload_n 0, 1, []), (1, .getfield 21, 4, []), (4, .iload_n 1, 5, []), (5, .invokevirtual 104, 8, []), (8, .ifCond .ne 5, 11, [13]), (11, .iconst (-1), 12, []), (12, .ireturn, 13, []), (13, .aload_n 0, 14, []), (14, .getfield 28, 17, []), (17, .aload_n 0, 18, []), (18, .getfield 21, 21, []), (21, .getfield 114, 24, []), (24, .iload_n 1, 25, []), (25, .laload, 26, []), (26, .invokevirtual 211, 29, []), (29, .ifCond .eq 7, 32, [36]), (32, .iconst 1, 33, []), (33, .goto 4, 36, [37]), (36, .iconst 0, 37, []), (37, .ireturn, 38, [])]
set_option maxRecDepth 200000 in
theorem tc_X9_known : T_X9_known.all (chk cX9_known) = true := by decide +kernel
def f_X9_known (N : Nat) (a1 : Int32) (σ : Wd) : Option (Int32 × Wd) :=
  (f_X3_has N a1 σ).bind fun p1 => if p1.1 = 0 then (some ((-1), p1.2)) else ((xldL p1.2 16 12 a1).bind fun v2 => (f_X1_holds N v2 p1.2).bind fun p3 => if p3.1 = 0 then (some (0, p3.2)) else (some (1, p3.2)))
def a_X9_known (N : Nat) : List Value → Wd → Option (Int32 × Wd) := fun as σ => kSE 0 as (fun r0 => kSI r0 (fun b1 r1 => kS0 r1 (f_X9_known N b1 σ))) (none)
set_option maxRecDepth 200000 in
theorem k_X9_211 : calchk RX9 211 2 1 yX1_holds cX1_holds 3 (some .boolean) = true := by decide +kernel
def ct_X9_known (N : Nat) : List (Nat × Cal) := [(104, 2, 3, .inl (a_X3_has N)), (211, 2, 1, .inl (a_X1_holds N))]
set_option maxRecDepth 200000 in
theorem md_X9_known (N : Nat) : MDOK T_X9_known ft_X9 lt_X9 (ct_X9_known N) cX9_known RX9 3 := ⟨tc_X9_known, fc_X9, lc_X9, List.forall_mem_cons.mpr ⟨Or.inl ⟨yX3_has, cX3_has, 2, (some .boolean), 1, k_X9_104, Nat.le_of_ble_eq_true rfl, C_X3_has N⟩, List.forall_mem_cons.mpr ⟨Or.inl ⟨yX1_holds, cX1_holds, 3, (some .boolean), 2, k_X9_211, Nat.le_of_ble_eq_true rfl, C_X1_holds N⟩, (fun _ z => absurd z List.not_mem_nil)⟩⟩⟩
set_option maxRecDepth 200000 in
theorem C_X9_known (N : Nat) : CTI 3 yX9_known cX9_known 2 (some .int) (a_X9_known N) := by
  refine CTI.of (own := RX9) (by decide) rfl (fun as σ r h => ?_)
  unfold a_X9_known at h
  rcases kSE_s h with ⟨r0, rfl, h0⟩ | hn
  ·
    obtain ⟨b1, r1, rfl, h1⟩ := kSI_s h0
    obtain ⟨rfl, h9⟩ := kS0_s h1
    exact ⟨Nat.le_of_ble_eq_true rfl, by refine GO.to (md_X9_known N) (kl := []) ((fun _ z => absurd z List.not_mem_nil)) 25 ?_ ?_ <;> rfl⟩
  cases hn
def T_X9_from : List (Nat × Ent) := [(0, .iload_n 1, 1, []), (1, .invokestatic 245, 4, []), (4, .ifCond .eq 12, 7, [16]), (7, .iload_n 2, 8, []), (8, .ifCond .lt 8, 11, [16]), (11, .iload_n 2, 12, []), (12, .iconst 1, 13, []), (13, .if_icmp .le 5, 16, [18]), (16, .iconst (-1), 17, []), (17, .ireturn, 18, []), (18, .aload_n 0, 19, []), (19, .getfield 62, 22, []), (22, .iload_n 1, 23, []), (23, .aaload, 24, []), (24, .astore_n 3, 25, []), (25, .aload_n 3, 26, []), (26, .getfield 248, 29, []), (29, .iconst 1, 30, []), (30, .if_icmp .eq 19, 33, [49]), (33, .aload_n 3, 34, []), (34, .getfield 248, 37, []), (37, .iconst (-1), 38, []), (38, .if_icmp .ne 8, 41, [46]), (41, .bipush (-11), 43, []), (43, .goto 5, 46, [48]), (46, .bipush (-12), 48, []), (48, .ireturn, 49, []), (49, .aload_n 3, 50, []), (50, .invokevirtual 278, 53, []), (53, .istore 4, 55, []), (55, .iconst 0, 56, []), (56, .istore 5, 58, []), (58, .iload 5, 60, []), (60, .iload 4, 62, []), (62, .if_icmp .ge 32, 65, [94]), (65, .aload_n 0, 66, []), (66, .getfield 42, 69, []), (69, .getfield 146, 72, []), (72, .iload_n 2, 73, []), (73, .bipush 12, 75, []), (75, .imul, 76, []), (76, .iload 5, 78, []), (78, .iadd, 79, []), (79, .aload_n 3, 80, []), (80, .getfield 270, 83, []), (83, .iload 5, 85, []), (85, .laload, 86, []), (86, .l2i, 87, []), (87, .iastore, 88, []), (88, .iinc 5 1, 91, []), (91, .goto (-33), 94, [58]), (94, .iload 4, 96, []), (96, .ifCond .le 7, 99, [103]), (99, .aload_n 0, 100, []), (100, .invokevirtual 139, 103, []), (103, .iload 4, 105, []), (105, .ireturn, 106, [])]
set_option maxRecDepth 200000 in
theorem tc_X9_from : T_X9_from.all (chk cX9_from) = true := by decide +kernel
def f_X9_from_L58 (N : Nat) (KO94 : Int32 → Wd → Option (Int32 × Wd)) : Nat → Int32 → Nat → Int32 → Int32 → Wd → Option (Int32 × Wd)
  | 0, _, _, _, _, _ => none
  | n + 1, x2, k3, x4, x5, σ => if x4 ≤ x5 then (KO94 x4 σ) else ((xldL σ (k3 + 28) 20 x5).bind fun v4 => (xst σ 31 25 ((x2 * 12) + x5) (Int64.toInt32 v4)).bind fun σ5 => f_X9_from_L58 N KO94 n x2 k3 x4 (x5 + 1) σ5)
def f_X9_from_J94 (N : Nat) (x4 : Int32) (σ : Wd) : Option (Int32 × Wd) :=
  if x4 ≤ 0 then (some (x4, σ)) else ((f_X9_timesHaveChanged N σ).bind fun σ6 => some (x4, σ6))
def f_X9_from (N : Nat) (a1 : Int32) (a2 : Int32) (σ : Wd) : Option (Int32 × Wd) :=
  (f_X9_isShelf N a1 σ).bind fun p1 => if p1.1 = 0 then (some ((-1), p1.2)) else (if a2 < 0 then (some ((-1), p1.2)) else (if a2 ≤ 1 then (xsh a1 fun k2 => if (p1.2.1 k2 1) = 1 then ((f_X5_leadingArrivals N k2 p1.2).bind fun p3 => f_X9_from_L58 N (f_X9_from_J94 N) N a2 k2 p3.1 0 p3.2) else (if (p1.2.1 k2 1) = (-1) then (some ((-11), p1.2)) else (some ((-12), p1.2)))) else (some ((-1), p1.2))))
def a_X9_from (N : Nat) : List Value → Wd → Option (Int32 × Wd) := fun as σ => kSE 0 as (fun r0 => kSI r0 (fun b1 r1 => kSI r1 (fun b2 r2 => kS0 r2 (f_X9_from N b1 b2 σ)))) (none)
set_option maxRecDepth 200000 in
theorem k_X9_278 : calchk RX9 278 1 5 yX5_leadingArrivals cX5_leadingArrivals 3 (some .int) = true := by decide +kernel
def ct_X9_from (N : Nat) : List (Nat × Cal) := [(245, 1, 0, .inl (a_X9_isShelf N)), (278, 1, 5, .inl (a_X5_leadingArrivals N)), (139, 1, 9, .inr (.inr (a_X9_timesHaveChanged N)))]
set_option maxRecDepth 200000 in
theorem md_X9_from (N : Nat) : MDOK T_X9_from ft_X9 lt_X9 (ct_X9_from N) cX9_from RX9 3 := ⟨tc_X9_from, fc_X9, lc_X9, List.forall_mem_cons.mpr ⟨Or.inl ⟨yX9_isShelf, cX9_isShelf, 1, (some .boolean), 1, k_X9_245, Nat.le_of_ble_eq_true rfl, C_X9_isShelf N⟩, List.forall_mem_cons.mpr ⟨Or.inl ⟨yX5_leadingArrivals, cX5_leadingArrivals, 3, (some .int), 2, k_X9_278, Nat.le_of_ble_eq_true rfl, C_X5_leadingArrivals N⟩, List.forall_mem_cons.mpr ⟨Or.inl ⟨yX9_timesHaveChanged, cX9_timesHaveChanged, 1, none, 1, k_X9_139, Nat.le_of_ble_eq_true rfl, C_X9_timesHaveChanged N⟩, (fun _ z => absurd z List.not_mem_nil)⟩⟩⟩⟩
set_option maxRecDepth 200000 in
theorem g_X9_from_L58 (N : Nat) (KO94 : Int32 → Wd → Option (Int32 × Wd)) (hKO94 : ∀ (x4 : Int32) (σ : Wd), GO cX9_from RX9 6 3 sc0 rI nJ0 nV0 (KO94 x4 σ) 94 (mkp 0 6 [(0, .ref 0), (4, .int x4)]) [] σ) : ∀ (n : Nat), ∀ (x2 : Int32) (k3 : Nat) (hk3 : (k3 = 9 ∨ k3 = 10 ∨ k3 = 11 ∨ k3 = 12)) (x4 : Int32) (x5 : Int32) (σ : Wd), GO cX9_from RX9 6 3 sc0 rI nJ0 nV0 (f_X9_from_L58 N KO94 n x2 k3 x4 x5 σ) 58 (mkp 0 6 [(0, .ref 0), (2, .int x2), (3, .ref k3), (4, .int x4), (5, .int x5)]) [] σ
  | 0, x2, k3, hk3, x4, x5, σ => GO.none
  | n + 1, x2, k3, hk3, x4, x5, σ => by
    rcases hk3 with rfl | rfl | rfl | rfl
    · exact (by refine GO.to (md_X9_from N) (kl := [(94, fun vs st σ => kS0 st (kA 0 0 vs (kI 4 vs (fun x4 => KO94 x4 σ)))), (58, fun vs st σ => kS0 st (kA 0 0 vs (kI 2 vs (fun x2 => kAE 3 9 vs (kI 4 vs (fun x4 => kI 5 vs (fun x5 => f_X9_from_L58 N KO94 n x2 9 x4 x5 σ))) (kAE 3 10 vs (kI 4 vs (fun x4 => kI 5 vs (fun x5 => f_X9_from_L58 N KO94 n x2 10 x4 x5 σ))) (kAE 3 11 vs (kI 4 vs (fun x4 => kI 5 vs (fun x5 => f_X9_from_L58 N KO94 n x2 11 x4 x5 σ))) (kAE 3 12 vs (kI 4 vs (fun x4 => kI 5 vs (fun x5 => f_X9_from_L58 N KO94 n x2 12 x4 x5 σ))) (none))))))))]) (List.forall_mem_cons.mpr ⟨fun vs st σ => go_kS0 (go_kA (fun h0 => go_kI (fun x4 h4 => GO.pat [(0, .ref 0), (4, .int x4)] ⟨h0, h4, trivial⟩ (hKO94 x4 σ)))), List.forall_mem_cons.mpr ⟨fun vs st σ => go_kS0 (go_kA (fun h0 => go_kI (fun x2 h2 => go_kAE (fun h3 => go_kI (fun x4 h4 => go_kI (fun x5 h5 => GO.pat [(0, .ref 0), (2, .int x2), (3, .ref 9), (4, .int x4), (5, .int x5)] ⟨h0, h2, h3, h4, h5, trivial⟩ (g_X9_from_L58 N KO94 hKO94 n x2 9 (Or.inl rfl) x4 x5 σ)))) (go_kAE (fun h3 => go_kI (fun x4 h4 => go_kI (fun x5 h5 => GO.pat [(0, .ref 0), (2, .int x2), (3, .ref 10), (4, .int x4), (5, .int x5)] ⟨h0, h2, h3, h4, h5, trivial⟩ (g_X9_from_L58 N KO94 hKO94 n x2 10 (Or.inr (Or.inl rfl)) x4 x5 σ)))) (go_kAE (fun h3 => go_kI (fun x4 h4 => go_kI (fun x5 h5 => GO.pat [(0, .ref 0), (2, .int x2), (3, .ref 11), (4, .int x4), (5, .int x5)] ⟨h0, h2, h3, h4, h5, trivial⟩ (g_X9_from_L58 N KO94 hKO94 n x2 11 (Or.inr (Or.inr (Or.inl rfl))) x4 x5 σ)))) (go_kAE (fun h3 => go_kI (fun x4 h4 => go_kI (fun x5 h5 => GO.pat [(0, .ref 0), (2, .int x2), (3, .ref 12), (4, .int x4), (5, .int x5)] ⟨h0, h2, h3, h4, h5, trivial⟩ (g_X9_from_L58 N KO94 hKO94 n x2 12 (Or.inr (Or.inr (Or.inr rfl))) x4 x5 σ)))) (GO.none))))))), (fun _ z => absurd z List.not_mem_nil)⟩⟩) 62 ?_ ?_ <;> rfl)
    · exact (by refine GO.to (md_X9_from N) (kl := [(94, fun vs st σ => kS0 st (kA 0 0 vs (kI 4 vs (fun x4 => KO94 x4 σ)))), (58, fun vs st σ => kS0 st (kA 0 0 vs (kI 2 vs (fun x2 => kAE 3 9 vs (kI 4 vs (fun x4 => kI 5 vs (fun x5 => f_X9_from_L58 N KO94 n x2 9 x4 x5 σ))) (kAE 3 10 vs (kI 4 vs (fun x4 => kI 5 vs (fun x5 => f_X9_from_L58 N KO94 n x2 10 x4 x5 σ))) (kAE 3 11 vs (kI 4 vs (fun x4 => kI 5 vs (fun x5 => f_X9_from_L58 N KO94 n x2 11 x4 x5 σ))) (kAE 3 12 vs (kI 4 vs (fun x4 => kI 5 vs (fun x5 => f_X9_from_L58 N KO94 n x2 12 x4 x5 σ))) (none))))))))]) (List.forall_mem_cons.mpr ⟨fun vs st σ => go_kS0 (go_kA (fun h0 => go_kI (fun x4 h4 => GO.pat [(0, .ref 0), (4, .int x4)] ⟨h0, h4, trivial⟩ (hKO94 x4 σ)))), List.forall_mem_cons.mpr ⟨fun vs st σ => go_kS0 (go_kA (fun h0 => go_kI (fun x2 h2 => go_kAE (fun h3 => go_kI (fun x4 h4 => go_kI (fun x5 h5 => GO.pat [(0, .ref 0), (2, .int x2), (3, .ref 9), (4, .int x4), (5, .int x5)] ⟨h0, h2, h3, h4, h5, trivial⟩ (g_X9_from_L58 N KO94 hKO94 n x2 9 (Or.inl rfl) x4 x5 σ)))) (go_kAE (fun h3 => go_kI (fun x4 h4 => go_kI (fun x5 h5 => GO.pat [(0, .ref 0), (2, .int x2), (3, .ref 10), (4, .int x4), (5, .int x5)] ⟨h0, h2, h3, h4, h5, trivial⟩ (g_X9_from_L58 N KO94 hKO94 n x2 10 (Or.inr (Or.inl rfl)) x4 x5 σ)))) (go_kAE (fun h3 => go_kI (fun x4 h4 => go_kI (fun x5 h5 => GO.pat [(0, .ref 0), (2, .int x2), (3, .ref 11), (4, .int x4), (5, .int x5)] ⟨h0, h2, h3, h4, h5, trivial⟩ (g_X9_from_L58 N KO94 hKO94 n x2 11 (Or.inr (Or.inr (Or.inl rfl))) x4 x5 σ)))) (go_kAE (fun h3 => go_kI (fun x4 h4 => go_kI (fun x5 h5 => GO.pat [(0, .ref 0), (2, .int x2), (3, .ref 12), (4, .int x4), (5, .int x5)] ⟨h0, h2, h3, h4, h5, trivial⟩ (g_X9_from_L58 N KO94 hKO94 n x2 12 (Or.inr (Or.inr (Or.inr rfl))) x4 x5 σ)))) (GO.none))))))), (fun _ z => absurd z List.not_mem_nil)⟩⟩) 62 ?_ ?_ <;> rfl)
    · exact (by refine GO.to (md_X9_from N) (kl := [(94, fun vs st σ => kS0 st (kA 0 0 vs (kI 4 vs (fun x4 => KO94 x4 σ)))), (58, fun vs st σ => kS0 st (kA 0 0 vs (kI 2 vs (fun x2 => kAE 3 9 vs (kI 4 vs (fun x4 => kI 5 vs (fun x5 => f_X9_from_L58 N KO94 n x2 9 x4 x5 σ))) (kAE 3 10 vs (kI 4 vs (fun x4 => kI 5 vs (fun x5 => f_X9_from_L58 N KO94 n x2 10 x4 x5 σ))) (kAE 3 11 vs (kI 4 vs (fun x4 => kI 5 vs (fun x5 => f_X9_from_L58 N KO94 n x2 11 x4 x5 σ))) (kAE 3 12 vs (kI 4 vs (fun x4 => kI 5 vs (fun x5 => f_X9_from_L58 N KO94 n x2 12 x4 x5 σ))) (none))))))))]) (List.forall_mem_cons.mpr ⟨fun vs st σ => go_kS0 (go_kA (fun h0 => go_kI (fun x4 h4 => GO.pat [(0, .ref 0), (4, .int x4)] ⟨h0, h4, trivial⟩ (hKO94 x4 σ)))), List.forall_mem_cons.mpr ⟨fun vs st σ => go_kS0 (go_kA (fun h0 => go_kI (fun x2 h2 => go_kAE (fun h3 => go_kI (fun x4 h4 => go_kI (fun x5 h5 => GO.pat [(0, .ref 0), (2, .int x2), (3, .ref 9), (4, .int x4), (5, .int x5)] ⟨h0, h2, h3, h4, h5, trivial⟩ (g_X9_from_L58 N KO94 hKO94 n x2 9 (Or.inl rfl) x4 x5 σ)))) (go_kAE (fun h3 => go_kI (fun x4 h4 => go_kI (fun x5 h5 => GO.pat [(0, .ref 0), (2, .int x2), (3, .ref 10), (4, .int x4), (5, .int x5)] ⟨h0, h2, h3, h4, h5, trivial⟩ (g_X9_from_L58 N KO94 hKO94 n x2 10 (Or.inr (Or.inl rfl)) x4 x5 σ)))) (go_kAE (fun h3 => go_kI (fun x4 h4 => go_kI (fun x5 h5 => GO.pat [(0, .ref 0), (2, .int x2), (3, .ref 11), (4, .int x4), (5, .int x5)] ⟨h0, h2, h3, h4, h5, trivial⟩ (g_X9_from_L58 N KO94 hKO94 n x2 11 (Or.inr (Or.inr (Or.inl rfl))) x4 x5 σ)))) (go_kAE (fun h3 => go_kI (fun x4 h4 => go_kI (fun x5 h5 => GO.pat [(0, .ref 0), (2, .int x2), (3, .ref 12), (4, .int x4), (5, .int x5)] ⟨h0, h2, h3, h4, h5, trivial⟩ (g_X9_from_L58 N KO94 hKO94 n x2 12 (Or.inr (Or.inr (Or.inr rfl))) x4 x5 σ)))) (GO.none))))))), (fun _ z => absurd z List.not_mem_nil)⟩⟩) 62 ?_ ?_ <;> rfl)
    · exact (by refine GO.to (md_X9_from N) (kl := [(94, fun vs st σ => kS0 st (kA 0 0 vs (kI 4 vs (fun x4 => KO94 x4 σ)))), (58, fun vs st σ => kS0 st (kA 0 0 vs (kI 2 vs (fun x2 => kAE 3 9 vs (kI 4 vs (fun x4 => kI 5 vs (fun x5 => f_X9_from_L58 N KO94 n x2 9 x4 x5 σ))) (kAE 3 10 vs (kI 4 vs (fun x4 => kI 5 vs (fun x5 => f_X9_from_L58 N KO94 n x2 10 x4 x5 σ))) (kAE 3 11 vs (kI 4 vs (fun x4 => kI 5 vs (fun x5 => f_X9_from_L58 N KO94 n x2 11 x4 x5 σ))) (kAE 3 12 vs (kI 4 vs (fun x4 => kI 5 vs (fun x5 => f_X9_from_L58 N KO94 n x2 12 x4 x5 σ))) (none))))))))]) (List.forall_mem_cons.mpr ⟨fun vs st σ => go_kS0 (go_kA (fun h0 => go_kI (fun x4 h4 => GO.pat [(0, .ref 0), (4, .int x4)] ⟨h0, h4, trivial⟩ (hKO94 x4 σ)))), List.forall_mem_cons.mpr ⟨fun vs st σ => go_kS0 (go_kA (fun h0 => go_kI (fun x2 h2 => go_kAE (fun h3 => go_kI (fun x4 h4 => go_kI (fun x5 h5 => GO.pat [(0, .ref 0), (2, .int x2), (3, .ref 9), (4, .int x4), (5, .int x5)] ⟨h0, h2, h3, h4, h5, trivial⟩ (g_X9_from_L58 N KO94 hKO94 n x2 9 (Or.inl rfl) x4 x5 σ)))) (go_kAE (fun h3 => go_kI (fun x4 h4 => go_kI (fun x5 h5 => GO.pat [(0, .ref 0), (2, .int x2), (3, .ref 10), (4, .int x4), (5, .int x5)] ⟨h0, h2, h3, h4, h5, trivial⟩ (g_X9_from_L58 N KO94 hKO94 n x2 10 (Or.inr (Or.inl rfl)) x4 x5 σ)))) (go_kAE (fun h3 => go_kI (fun x4 h4 => go_kI (fun x5 h5 => GO.pat [(0, .ref 0), (2, .int x2), (3, .ref 11), (4, .int x4), (5, .int x5)] ⟨h0, h2, h3, h4, h5, trivial⟩ (g_X9_from_L58 N KO94 hKO94 n x2 11 (Or.inr (Or.inr (Or.inl rfl))) x4 x5 σ)))) (go_kAE (fun h3 => go_kI (fun x4 h4 => go_kI (fun x5 h5 => GO.pat [(0, .ref 0), (2, .int x2), (3, .ref 12), (4, .int x4), (5, .int x5)] ⟨h0, h2, h3, h4, h5, trivial⟩ (g_X9_from_L58 N KO94 hKO94 n x2 12 (Or.inr (Or.inr (Or.inr rfl))) x4 x5 σ)))) (GO.none))))))), (fun _ z => absurd z List.not_mem_nil)⟩⟩) 62 ?_ ?_ <;> rfl)
set_option maxRecDepth 200000 in
theorem g_X9_from_J94 (N : Nat) (x4 : Int32) (σ : Wd) : GO cX9_from RX9 6 3 sc0 rI nJ0 nV0 (f_X9_from_J94 N x4 σ) 94 (mkp 0 6 [(0, .ref 0), (4, .int x4)]) [] σ := by
  exact (by refine GO.to (md_X9_from N) (kl := []) ((fun _ z => absurd z List.not_mem_nil)) 62 ?_ ?_ <;> rfl)
set_option maxRecDepth 200000 in
theorem C_X9_from (N : Nat) : CTI 3 yX9_from cX9_from 6 (some .int) (a_X9_from N) := by
  refine CTI.of (own := RX9) (by decide) rfl (fun as σ r h => ?_)
  unfold a_X9_from at h
  rcases kSE_s h with ⟨r0, rfl, h0⟩ | hn
  ·
    obtain ⟨b1, r1, rfl, h1⟩ := kSI_s h0
    obtain ⟨b2, r2, rfl, h2⟩ := kSI_s h1
    obtain ⟨rfl, h9⟩ := kS0_s h2
    exact ⟨Nat.le_of_ble_eq_true rfl, by refine GO.to (md_X9_from N) (kl := [(58, fun vs st σ => kS0 st (kA 0 0 vs (kI 2 vs (fun x2 => kAE 3 9 vs (kI 4 vs (fun x4 => kI 5 vs (fun x5 => f_X9_from_L58 N (f_X9_from_J94 N) N x2 9 x4 x5 σ))) (kAE 3 10 vs (kI 4 vs (fun x4 => kI 5 vs (fun x5 => f_X9_from_L58 N (f_X9_from_J94 N) N x2 10 x4 x5 σ))) (kAE 3 11 vs (kI 4 vs (fun x4 => kI 5 vs (fun x5 => f_X9_from_L58 N (f_X9_from_J94 N) N x2 11 x4 x5 σ))) (kAE 3 12 vs (kI 4 vs (fun x4 => kI 5 vs (fun x5 => f_X9_from_L58 N (f_X9_from_J94 N) N x2 12 x4 x5 σ))) (none))))))))]) (List.forall_mem_cons.mpr ⟨fun vs st σ => go_kS0 (go_kA (fun h0 => go_kI (fun x2 h2 => go_kAE (fun h3 => go_kI (fun x4 h4 => go_kI (fun x5 h5 => GO.pat [(0, .ref 0), (2, .int x2), (3, .ref 9), (4, .int x4), (5, .int x5)] ⟨h0, h2, h3, h4, h5, trivial⟩ (g_X9_from_L58 N (f_X9_from_J94 N) (g_X9_from_J94 N) N x2 9 (Or.inl rfl) x4 x5 σ)))) (go_kAE (fun h3 => go_kI (fun x4 h4 => go_kI (fun x5 h5 => GO.pat [(0, .ref 0), (2, .int x2), (3, .ref 10), (4, .int x4), (5, .int x5)] ⟨h0, h2, h3, h4, h5, trivial⟩ (g_X9_from_L58 N (f_X9_from_J94 N) (g_X9_from_J94 N) N x2 10 (Or.inr (Or.inl rfl)) x4 x5 σ)))) (go_kAE (fun h3 => go_kI (fun x4 h4 => go_kI (fun x5 h5 => GO.pat [(0, .ref 0), (2, .int x2), (3, .ref 11), (4, .int x4), (5, .int x5)] ⟨h0, h2, h3, h4, h5, trivial⟩ (g_X9_from_L58 N (f_X9_from_J94 N) (g_X9_from_J94 N) N x2 11 (Or.inr (Or.inr (Or.inl rfl))) x4 x5 σ)))) (go_kAE (fun h3 => go_kI (fun x4 h4 => go_kI (fun x5 h5 => GO.pat [(0, .ref 0), (2, .int x2), (3, .ref 12), (4, .int x4), (5, .int x5)] ⟨h0, h2, h3, h4, h5, trivial⟩ (g_X9_from_L58 N (f_X9_from_J94 N) (g_X9_from_J94 N) N x2 12 (Or.inr (Or.inr (Or.inr rfl))) x4 x5 σ)))) (GO.none))))))), (fun _ z => absurd z List.not_mem_nil)⟩) 62 ?_ ?_ <;> rfl⟩
  cases hn
def T_X9_read : List (Nat × Ent) := [(0, .aload_n 0, 1, []), (1, .getfield 12, 4, []), (4, .invokevirtual 79, 7, []), (7, .istore_n 1, 8, []), (8, .aload_n 0, 9, []), (9, .getfield 12, 12, []), (12, .aload_n 0, 13, []), (13, .getfield 12, 16, []), (16, .invokevirtual 83, 19, []), (19, .invokevirtual 86, 22, []), (22, .istore_n 2, 23, []), (23, .aload_n 0, 24, []), (24, .getfield 12, 27, []), (27, .iconst 0, 28, []), (28, .putfield 75, 31, []), (31, .iload_n 1, 32, []), (32, .ifCond .lt 8, 35, [40]), (35, .bipush (-100), 37, []), (37, .iload_n 1, 38, []), (38, .isub, 39, []), (39, .ireturn, 40, []), (40, .aload_n 0, 41, []), (41, .getfield 21, 44, []), (44, .iload_n 2, 45, []), (45, .aload_n 0, 46, []), (46, .getfield 12, 49, []), (49, .getfield 90, 52, []), (52, .invokevirtual 94, 55, []), (55, .ireturn, 56, [])]
set_option maxRecDepth 200000 in
theorem tc_X9_read : T_X9_read.all (chk cX9_read) = true := by decide +kernel
def f_X9_read (N : Nat) (σ : Wd) : Option (Int32 × Wd) :=
  (f_X7_parse N σ).bind fun p1 => (f_X7_letters N p1.2).bind fun p2 => (f_X7_nameCode N p2.1 p2.2).bind fun p3 => let σ4 : Wd := sF p3.2 1 1 0
  if p1.1 < 0 then ((f_X3_tell N p3.1 (σ4.2 1 2) σ4).bind fun p5 => some (p5.1, p5.2)) else (some ((-100) - p1.1, σ4))
def a_X9_read (N : Nat) : List Value → Wd → Option (Int32 × Wd) := fun as σ => kSE 0 as (fun r0 => kS0 r0 (f_X9_read N σ)) (none)
set_option maxRecDepth 200000 in
theorem k_X9_79 : calchk RX9 79 1 7 yX7_parse cX7_parse 8 (some .int) = true := by decide +kernel
set_option maxRecDepth 200000 in
theorem k_X9_83 : calchk RX9 83 1 7 yX7_letters cX7_letters 2 (some .int) = true := by decide +kernel
set_option maxRecDepth 200000 in
theorem k_X9_86 : calchk RX9 86 2 7 yX7_nameCode cX7_nameCode 4 (some .int) = true := by decide +kernel
set_option maxRecDepth 200000 in
theorem k_X9_94 : calchk RX9 94 3 3 yX3_tell cX3_tell 5 (some .int) = true := by decide +kernel
def ct_X9_read (N : Nat) : List (Nat × Cal) := [(79, 1, 7, .inl (a_X7_parse N)), (83, 1, 7, .inl (a_X7_letters N)), (86, 2, 7, .inl (a_X7_nameCode N)), (94, 3, 3, .inl (a_X3_tell N))]
set_option maxRecDepth 200000 in
theorem md_X9_read (N : Nat) : MDOK T_X9_read ft_X9 lt_X9 (ct_X9_read N) cX9_read RX9 4 := ⟨tc_X9_read, fc_X9, lc_X9, List.forall_mem_cons.mpr ⟨Or.inl ⟨yX7_parse, cX7_parse, 8, (some .int), 3, k_X9_79, Nat.le_of_ble_eq_true rfl, C_X7_parse N⟩, List.forall_mem_cons.mpr ⟨Or.inl ⟨yX7_letters, cX7_letters, 2, (some .int), 2, k_X9_83, Nat.le_of_ble_eq_true rfl, C_X7_letters N⟩, List.forall_mem_cons.mpr ⟨Or.inl ⟨yX7_nameCode, cX7_nameCode, 4, (some .int), 1, k_X9_86, Nat.le_of_ble_eq_true rfl, C_X7_nameCode N⟩, List.forall_mem_cons.mpr ⟨Or.inl ⟨yX3_tell, cX3_tell, 5, (some .int), 2, k_X9_94, Nat.le_of_ble_eq_true rfl, C_X3_tell N⟩, (fun _ z => absurd z List.not_mem_nil)⟩⟩⟩⟩⟩
set_option maxRecDepth 200000 in
theorem C_X9_read (N : Nat) : CTI 4 yX9_read cX9_read 3 (some .int) (a_X9_read N) := by
  refine CTI.of (own := RX9) (by decide) rfl (fun as σ r h => ?_)
  unfold a_X9_read at h
  rcases kSE_s h with ⟨r0, rfl, h0⟩ | hn
  ·
    obtain ⟨rfl, h9⟩ := kS0_s h0
    exact ⟨Nat.le_of_ble_eq_true rfl, by refine GO.to (md_X9_read N) (kl := []) ((fun _ z => absurd z List.not_mem_nil)) 34 ?_ ?_ <;> rfl⟩
  cases hn
def T_X9_find : List (Nat × Ent) := [(0, .aload_n 0, 1, []), (1, .getfield 12, 4, []), (4, .invokevirtual 98, 7, []), (7, .istore_n 1, 8, []), (8, .iload_n 1, 9, []), (9, .ifCond .ne 8, 12, [17]), (12, .bipush (-2), 14, []), (14, .goto 11, 17, [25]), (17, .aload_n 0, 18, []), (18, .getfield 21, 21, []), (21, .iload_n 1, 22, []), (22, .invokevirtual 101, 25, []), (25, .ireturn, 26, [])]
set_option maxRecDepth 200000 in
theorem tc_X9_find : T_X9_find.all (chk cX9_find) = true := by decide +kernel
def f_X9_find (N : Nat) (σ : Wd) : Option (Int32 × Wd) :=
  (f_X7_takeName N σ).bind fun p1 => if p1.1 = 0 then (some ((-2), p1.2)) else ((f_X3_numberOf N p1.1 p1.2).bind fun p2 => some (p2.1, p2.2))
def a_X9_find (N : Nat) : List Value → Wd → Option (Int32 × Wd) := fun as σ => kSE 0 as (fun r0 => kS0 r0 (f_X9_find N σ)) (none)
set_option maxRecDepth 200000 in
theorem k_X9_98 : calchk RX9 98 1 7 yX7_takeName cX7_takeName 3 (some .int) = true := by decide +kernel
set_option maxRecDepth 200000 in
theorem k_X9_101 : calchk RX9 101 2 3 yX3_numberOf cX3_numberOf 3 (some .int) = true := by decide +kernel
def ct_X9_find (N : Nat) : List (Nat × Cal) := [(98, 1, 7, .inl (a_X7_takeName N)), (101, 2, 3, .inl (a_X3_numberOf N))]
set_option maxRecDepth 200000 in
theorem md_X9_find (N : Nat) : MDOK T_X9_find ft_X9 lt_X9 (ct_X9_find N) cX9_find RX9 4 := ⟨tc_X9_find, fc_X9, lc_X9, List.forall_mem_cons.mpr ⟨Or.inl ⟨yX7_takeName, cX7_takeName, 3, (some .int), 3, k_X9_98, Nat.le_of_ble_eq_true rfl, C_X7_takeName N⟩, List.forall_mem_cons.mpr ⟨Or.inl ⟨yX3_numberOf, cX3_numberOf, 3, (some .int), 1, k_X9_101, Nat.le_of_ble_eq_true rfl, C_X3_numberOf N⟩, (fun _ z => absurd z List.not_mem_nil)⟩⟩⟩
set_option maxRecDepth 200000 in
theorem C_X9_find (N : Nat) : CTI 4 yX9_find cX9_find 2 (some .int) (a_X9_find N) := by
  refine CTI.of (own := RX9) (by decide) rfl (fun as σ r h => ?_)
  unfold a_X9_find at h
  rcases kSE_s h with ⟨r0, rfl, h0⟩ | hn
  ·
    obtain ⟨rfl, h9⟩ := kS0_s h0
    exact ⟨Nat.le_of_ble_eq_true rfl, by refine GO.to (md_X9_find N) (kl := []) ((fun _ z => absurd z List.not_mem_nil)) 18 ?_ ?_ <;> rfl⟩
  cases hn
def T_X9_plan : List (Nat × Ent) := [(0, .aload_n 0, 1, []), (1, .getfield 21, 4, []), (4, .iload_n 1, 5, []), (5, .invokevirtual 104, 8, []), (8, .ifCond .eq 9, 11, [17]), (11, .iload_n 2, 12, []), (12, .bipush (-2), 14, []), (14, .if_icmp .ge 5, 17, [19]), (17, .iconst (-1), 18, []), (18, .ireturn, 19, []), (19, .aload_n 0, 20, []), (20, .getfield 21, 23, []), (23, .getfield 114, 26, []), (26, .iload_n 1, 27, []), (27, .laload, 28, []), (28, .lstore_n 3, 29, []), (29, .iload_n 2, 30, []), (30, .iconst (-1), 31, []), (31, .if_icmp .ne 8, 34, [39]), (34, .lload_n 3, 35, []), (35, .invokestatic 117, 38, []), (38, .ireturn, 39, []), (39, .iload_n 2, 40, []), (40, .bipush (-2), 42, []), (42, .if_icmp .ne 8, 45, [50]), (45, .lload_n 3, 46, []), (46, .invokestatic 123, 49, []), (49, .ireturn, 50, []), (50, .lload_n 3, 51, []), (51, .iload_n 2, 52, []), (52, .invokestatic 125, 55, []), (55, .ireturn, 56, [])]
set_option maxRecDepth 200000 in
theorem tc_X9_plan : T_X9_plan.all (chk cX9_plan) = true := by decide +kernel
def f_X9_plan (N : Nat) (a1 : Int32) (a2 : Int32) (σ : Wd) : Option (Int32 × Wd) :=
  (f_X3_has N a1 σ).bind fun p1 => if p1.1 = 0 then (some ((-1), p1.2)) else (if (-2) ≤ a2 then ((xldL p1.2 16 12 a1).bind fun v2 => if a2 = (-1) then ((f_X0_width N v2 p1.2).bind fun p3 => some (p3.1, p3.2)) else (if a2 = (-2) then ((f_X0_amount N v2 p1.2).bind fun p4 => some (p4.1, p4.2)) else ((f_X0_figureOf N v2 a2 p1.2).bind fun p5 => some (p5.1, p5.2)))) else (some ((-1), p1.2)))
def a_X9_plan (N : Nat) : List Value → Wd → Option (Int32 × Wd) := fun as σ => kSE 0 as (fun r0 => kSI r0 (fun b1 r1 => kSI r1 (fun b2 r2 => kS0 r2 (f_X9_plan N b1 b2 σ)))) (none)
set_option maxRecDepth 200000 in
theorem k_X9_117 : calchk RX9 117 1 0 yX0_width cX0_width 4 (some .int) = true := by decide +kernel
set_option maxRecDepth 200000 in
theorem k_X9_123 : calchk RX9 123 1 0 yX0_amount cX0_amount 3 (some .int) = true := by decide +kernel
set_option maxRecDepth 200000 in
theorem k_X9_125 : calchk RX9 125 2 0 yX0_figureOf cX0_figureOf 3 (some .int) = true := by decide +kernel
def ct_X9_plan (N : Nat) : List (Nat × Cal) := [(104, 2, 3, .inl (a_X3_has N)), (117, 1, 0, .inl (a_X0_width N)), (123, 1, 0, .inl (a_X0_amount N)), (125, 2, 0, .inl (a_X0_figureOf N))]
set_option maxRecDepth 200000 in
theorem md_X9_plan (N : Nat) : MDOK T_X9_plan ft_X9 lt_X9 (ct_X9_plan N) cX9_plan RX9 4 := ⟨tc_X9_plan, fc_X9, lc_X9, List.forall_mem_cons.mpr ⟨Or.inl ⟨yX3_has, cX3_has, 2, (some .boolean), 1, k_X9_104, Nat.le_of_ble_eq_true rfl, C_X3_has N⟩, List.forall_mem_cons.mpr ⟨Or.inl ⟨yX0_width, cX0_width, 4, (some .int), 3, k_X9_117, Nat.le_of_ble_eq_true rfl, C_X0_width N⟩, List.forall_mem_cons.mpr ⟨Or.inl ⟨yX0_amount, cX0_amount, 3, (some .int), 2, k_X9_123, Nat.le_of_ble_eq_true rfl, C_X0_amount N⟩, List.forall_mem_cons.mpr ⟨Or.inl ⟨yX0_figureOf, cX0_figureOf, 3, (some .int), 3, k_X9_125, Nat.le_of_ble_eq_true rfl, C_X0_figureOf N⟩, (fun _ z => absurd z List.not_mem_nil)⟩⟩⟩⟩⟩
set_option maxRecDepth 200000 in
theorem C_X9_plan (N : Nat) : CTI 4 yX9_plan cX9_plan 5 (some .int) (a_X9_plan N) := by
  refine CTI.of (own := RX9) (by decide) rfl (fun as σ r h => ?_)
  unfold a_X9_plan at h
  rcases kSE_s h with ⟨r0, rfl, h0⟩ | hn
  ·
    obtain ⟨b1, r1, rfl, h1⟩ := kSI_s h0
    obtain ⟨b2, r2, rfl, h2⟩ := kSI_s h1
    obtain ⟨rfl, h9⟩ := kS0_s h2
    exact ⟨Nat.le_of_ble_eq_true rfl, by refine GO.to (md_X9_plan N) (kl := []) ((fun _ z => absurd z List.not_mem_nil)) 37 ?_ ?_ <;> rfl⟩
  cases hn
def T_X9_alike : List (Nat × Ent) := [(0, .aload_n 0, 1, []), (1, .getfield 21, 4, []), (4, .iload_n 1, 5, []), (5, .invokevirtual 104, 8, []), (8, .ifCond .eq 14, 11, [22]), (11, .aload_n 0, 12, []), (12, .getfield 21, 15, []), (15, .iload_n 2, 16, []), (16, .invokevirtual 104, 19, []), (19, .ifCond .ne 5, 22, [24]), (22, .iconst (-1), 23, []), (23, .ireturn, 24, []), (24, .aload_n 0, 25, []), (25, .getfield 21, 28, []), (28, .getfield 114, 31, []), (31, .iload_n 1, 32, []), (32, .laload, 33, []), (33, .lstore_n 3, 34, []), (34, .aload_n 0, 35, []), (35, .getfield 21, 38, []), (38, .getfield 114, 41, []), (41, .iload_n 2, 42, []), (42, .laload, 43, []), (43, .lstore 5, 45, []), (45, .lload_n 3, 46, []), (46, .lload 5, 48, []), (48, .lcmp, 49, []), (49, .ifCond .ne 5, 52, [54]), (52, .iconst 2, 53, []), (53, .ireturn, 54, []), (54, .lload_n 3, 55, []), (55, .invokestatic 117, 58, []), (58, .lload 5, 60, []), (60, .invokestatic 117, 63, []), (63, .if_icmp .ne 7, 66, [70]), (66, .iconst 1, 67, []), (67, .goto 4, 70, [71]), (70, .iconst 0, 71, []), (71, .ireturn, 72, [])]
set_option maxRecDepth 200000 in
theorem tc_X9_alike : T_X9_alike.all (chk cX9_alike) = true := by decide +kernel
def f_X9_alike (N : Nat) (a1 : Int32) (a2 : Int32) (σ : Wd) : Option (Int32 × Wd) :=
  (f_X3_has N a1 σ).bind fun p1 => if p1.1 = 0 then (some ((-1), p1.2)) else ((f_X3_has N a2 p1.2).bind fun p2 => if p2.1 = 0 then (some ((-1), p2.2)) else ((xldL p2.2 16 12 a1).bind fun v3 => (xldL p2.2 16 12 a2).bind fun v4 => if (lg_cmp v3 v4) = 0 then (some (2, p2.2)) else ((f_X0_width N v3 p2.2).bind fun p5 => (f_X0_width N v4 p5.2).bind fun p6 => if p5.1 = p6.1 then (some (1, p6.2)) else (some (0, p6.2)))))
def a_X9_alike (N : Nat) : List Value → Wd → Option (Int32 × Wd) := fun as σ => kSE 0 as (fun r0 => kSI r0 (fun b1 r1 => kSI r1 (fun b2 r2 => kS0 r2 (f_X9_alike N b1 b2 σ)))) (none)
def ct_X9_alike (N : Nat) : List (Nat × Cal) := [(104, 2, 3, .inl (a_X3_has N)), (117, 1, 0, .inl (a_X0_width N))]
set_option maxRecDepth 200000 in
theorem md_X9_alike (N : Nat) : MDOK T_X9_alike ft_X9 lt_X9 (ct_X9_alike N) cX9_alike RX9 4 := ⟨tc_X9_alike, fc_X9, lc_X9, List.forall_mem_cons.mpr ⟨Or.inl ⟨yX3_has, cX3_has, 2, (some .boolean), 1, k_X9_104, Nat.le_of_ble_eq_true rfl, C_X3_has N⟩, List.forall_mem_cons.mpr ⟨Or.inl ⟨yX0_width, cX0_width, 4, (some .int), 3, k_X9_117, Nat.le_of_ble_eq_true rfl, C_X0_width N⟩, (fun _ z => absurd z List.not_mem_nil)⟩⟩⟩
set_option maxRecDepth 200000 in
theorem C_X9_alike (N : Nat) : CTI 4 yX9_alike cX9_alike 7 (some .int) (a_X9_alike N) := by
  refine CTI.of (own := RX9) (by decide) rfl (fun as σ r h => ?_)
  unfold a_X9_alike at h
  rcases kSE_s h with ⟨r0, rfl, h0⟩ | hn
  ·
    obtain ⟨b1, r1, rfl, h1⟩ := kSI_s h0
    obtain ⟨b2, r2, rfl, h2⟩ := kSI_s h1
    obtain ⟨rfl, h9⟩ := kS0_s h2
    exact ⟨Nat.le_of_ble_eq_true rfl, by refine GO.to (md_X9_alike N) (kl := []) ((fun _ z => absurd z List.not_mem_nil)) 44 ?_ ?_ <;> rfl⟩
  cases hn
def T_X9_taken : List (Nat × Ent) := [(0, .iload_n 1, 1, []), (1, .invokestatic 245, 4, []), (4, .ifCond .eq 12, 7, [16]), (7, .iload_n 2, 8, []), (8, .ifCond .lt 8, 11, [16]), (11, .iload_n 2, 12, []), (12, .iconst 2, 13, []), (13, .if_icmp .le 5, 16, [18]), (16, .iconst (-1), 17, []), (17, .ireturn, 18, []), (18, .aload_n 0, 19, []), (19, .getfield 62, 22, []), (22, .iload_n 1, 23, []), (23, .aaload, 24, []), (24, .astore_n 3, 25, []), (25, .aload_n 3, 26, []), (26, .getfield 248, 29, []), (29, .iconst 2, 30, []), (30, .if_icmp .eq 19, 33, [49]), (33, .aload_n 3, 34, []), (34, .getfield 248, 37, []), (37, .iconst (-1), 38, []), (38, .if_icmp .ne 8, 41, [46]), (41, .bipush (-11), 43, []), (43, .goto 5, 46, [48]), (46, .bipush (-12), 48, []), (48, .ireturn, 49, []), (49, .iload_n 2, 50, []), (50, .ifCond .ne 11, 53, [61]), (53, .aload_n 3, 54, []), (54, .getfield 254, 57, []), (57, .invokestatic 117, 60, []), (60, .ireturn, 61, []), (61, .iload_n 2, 62, []), (62, .iconst 1, 63, []), (63, .if_icmp .ne 23, 66, [86]), (66, .aload_n 0, 67, []), (67, .getfield 28, 70, []), (70, .aload_n 3, 71, []), (71, .getfield 254, 74, []), (74, .invokevirtual 211, 77, []), (77, .ifCond .eq 7, 80, [84]), (80, .iconst 1, 81, []), (81, .goto 4, 84, [85]), (84, .iconst 0, 85, []), (85, .ireturn, 86, []), (86, .aload_n 0, 87, []), (87, .getfield 21, 90, []), (90, .aload_n 3, 91, []), (91, .getfield 254, 94, []), (94, .invokevirtual 256, 97, []), (97, .ireturn, 98, [])]
set_option maxRecDepth 200000 in
theorem tc_X9_taken : T_X9_taken.all (chk cX9_taken) = true := by decide +kernel
def f_X9_taken (N : Nat) (a1 : Int32) (a2 : Int32) (σ : Wd) : Option (Int32 × Wd) :=
  (f_X9_isShelf N a1 σ).bind fun p1 => if p1.1 = 0 then (some ((-1), p1.2)) else (if a2 < 0 then (some ((-1), p1.2)) else (if a2 ≤ 2 then (xsh a1 fun k2 => if (p1.2.1 k2 1) = 2 then (if a2 = 0 then ((f_X0_width N (p1.2.2 k2 3) p1.2).bind fun p3 => some (p3.1, p3.2)) else (if a2 = 1 then ((f_X1_holds N (p1.2.2 k2 3) p1.2).bind fun p4 => if p4.1 = 0 then (some (0, p4.2)) else (some (1, p4.2))) else ((f_X3_amountWith N (p1.2.2 k2 3) p1.2).bind fun p5 => some (p5.1, p5.2)))) else (if (p1.2.1 k2 1) = (-1) then (some ((-11), p1.2)) else (some ((-12), p1.2)))) else (some ((-1), p1.2))))
def a_X9_taken (N : Nat) : List Value → Wd → Option (Int32 × Wd) := fun as σ => kSE 0 as (fun r0 => kSI r0 (fun b1 r1 => kSI r1 (fun b2 r2 => kS0 r2 (f_X9_taken N b1 b2 σ)))) (none)
set_option maxRecDepth 200000 in
theorem k_X9_256 : calchk RX9 256 2 3 yX3_amountWith cX3_amountWith 5 (some .int) = true := by decide +kernel
def ct_X9_taken (N : Nat) : List (Nat × Cal) := [(245, 1, 0, .inl (a_X9_isShelf N)), (117, 1, 0, .inl (a_X0_width N)), (211, 2, 1, .inl (a_X1_holds N)), (256, 2, 3, .inl (a_X3_amountWith N))]
set_option maxRecDepth 200000 in
theorem md_X9_taken (N : Nat) : MDOK T_X9_taken ft_X9 lt_X9 (ct_X9_taken N) cX9_taken RX9 4 := ⟨tc_X9_taken, fc_X9, lc_X9, List.forall_mem_cons.mpr ⟨Or.inl ⟨yX9_isShelf, cX9_isShelf, 1, (some .boolean), 1, k_X9_245, Nat.le_of_ble_eq_true rfl, C_X9_isShelf N⟩, List.forall_mem_cons.mpr ⟨Or.inl ⟨yX0_width, cX0_width, 4, (some .int), 3, k_X9_117, Nat.le_of_ble_eq_true rfl, C_X0_width N⟩, List.forall_mem_cons.mpr ⟨Or.inl ⟨yX1_holds, cX1_holds, 3, (some .boolean), 2, k_X9_211, Nat.le_of_ble_eq_true rfl, C_X1_holds N⟩, List.forall_mem_cons.mpr ⟨Or.inl ⟨yX3_amountWith, cX3_amountWith, 5, (some .int), 1, k_X9_256, Nat.le_of_ble_eq_true rfl, C_X3_amountWith N⟩, (fun _ z => absurd z List.not_mem_nil)⟩⟩⟩⟩⟩
set_option maxRecDepth 200000 in
theorem C_X9_taken (N : Nat) : CTI 4 yX9_taken cX9_taken 4 (some .int) (a_X9_taken N) := by
  refine CTI.of (own := RX9) (by decide) rfl (fun as σ r h => ?_)
  unfold a_X9_taken at h
  rcases kSE_s h with ⟨r0, rfl, h0⟩ | hn
  ·
    obtain ⟨b1, r1, rfl, h1⟩ := kSI_s h0
    obtain ⟨b2, r2, rfl, h2⟩ := kSI_s h1
    obtain ⟨rfl, h9⟩ := kS0_s h2
    exact ⟨Nat.le_of_ble_eq_true rfl, by refine GO.to (md_X9_taken N) (kl := []) ((fun _ z => absurd z List.not_mem_nil)) 57 ?_ ?_ <;> rfl⟩
  cases hn
def T_X9_count : List (Nat × Ent) := [(0, .iload_n 1, 1, []), (1, .tableswitch 84 0 5 #[39, 47, 55, 63, 68, 76], 40, [85, 40, 48, 56, 64, 69, 77]), (40, .aload_n 0, 41, []), (41, .getfield 21, 44, []), (44, .getfield 111, 47, []), (47, .ireturn, 48, []), (48, .aload_n 0, 49, []), (49, .getfield 28, 52, []), (52, .getfield 281, 55, []), (55, .ireturn, 56, []), (56, .aload_n 0, 57, []), (57, .getfield 12, 60, []), (60, .getfield 75, 63, []), (63, .ireturn, 64, []), (64, .aload_n 0, 65, []), (65, .invokevirtual 282, 68, []), (68, .ireturn, 69, []), (69, .aload_n 0, 70, []), (70, .getfield 21, 73, []), (73, .invokevirtual 285, 76, []), (76, .ireturn, 77, []), (77, .aload_n 0, 78, []), (78, .getfield 21, 81, []), (81, .invokevirtual 288, 84, []), (84, .ireturn, 85, []), (85, .iconst (-1), 86, []), (86, .ireturn, 87, [])]
set_option maxRecDepth 200000 in
theorem tc_X9_count : T_X9_count.all (chk cX9_count) = true := by decide +kernel
def f_X9_count (N : Nat) (a1 : Int32) (σ : Wd) : Option (Int32 × Wd) :=
  if a1 = 0 then (some (σ.1 2 2, σ)) else if a1 = 1 then (some (σ.1 3 1, σ)) else if a1 = 2 then (some (σ.1 1 1, σ)) else if a1 = 3 then ((f_X9_filledShelves N σ).bind fun p1 => some (p1.1, p1.2)) else if a1 = 4 then ((f_X3_amountOfBlocks N σ).bind fun p2 => some (p2.1, p2.2)) else if a1 = 5 then ((f_X3_unlikeBlocks N σ).bind fun p3 => some (p3.1, p3.2)) else (some ((-1), σ))
def a_X9_count (N : Nat) : List Value → Wd → Option (Int32 × Wd) := fun as σ => kSE 0 as (fun r0 => kSI r0 (fun b1 r1 => kS0 r1 (f_X9_count N b1 σ))) (none)
set_option maxRecDepth 200000 in
theorem k_X9_282 : calchk RX9 282 1 9 yX9_filledShelves cX9_filledShelves 3 (some .int) = true := by decide +kernel
set_option maxRecDepth 200000 in
theorem k_X9_285 : calchk RX9 285 1 3 yX3_amountOfBlocks cX3_amountOfBlocks 3 (some .int) = true := by decide +kernel
set_option maxRecDepth 200000 in
theorem k_X9_288 : calchk RX9 288 1 3 yX3_unlikeBlocks cX3_unlikeBlocks 6 (some .int) = true := by decide +kernel
def ct_X9_count (N : Nat) : List (Nat × Cal) := [(282, 1, 9, .inl (a_X9_filledShelves N)), (285, 1, 3, .inl (a_X3_amountOfBlocks N)), (288, 1, 3, .inl (a_X3_unlikeBlocks N))]
set_option maxRecDepth 200000 in
theorem md_X9_count (N : Nat) : MDOK T_X9_count ft_X9 lt_X9 (ct_X9_count N) cX9_count RX9 4 := ⟨tc_X9_count, fc_X9, lc_X9, List.forall_mem_cons.mpr ⟨Or.inl ⟨yX9_filledShelves, cX9_filledShelves, 3, (some .int), 1, k_X9_282, Nat.le_of_ble_eq_true rfl, C_X9_filledShelves N⟩, List.forall_mem_cons.mpr ⟨Or.inl ⟨yX3_amountOfBlocks, cX3_amountOfBlocks, 3, (some .int), 3, k_X9_285, Nat.le_of_ble_eq_true rfl, C_X3_amountOfBlocks N⟩, List.forall_mem_cons.mpr ⟨Or.inl ⟨yX3_unlikeBlocks, cX3_unlikeBlocks, 6, (some .int), 3, k_X9_288, Nat.le_of_ble_eq_true rfl, C_X3_unlikeBlocks N⟩, (fun _ z => absurd z List.not_mem_nil)⟩⟩⟩⟩
set_option maxRecDepth 200000 in
theorem C_X9_count (N : Nat) : CTI 4 yX9_count cX9_count 2 (some .int) (a_X9_count N) := by
  refine CTI.of (own := RX9) (by decide) rfl (fun as σ r h => ?_)
  unfold a_X9_count at h
  rcases kSE_s h with ⟨r0, rfl, h0⟩ | hn
  ·
    obtain ⟨b1, r1, rfl, h1⟩ := kSI_s h0
    obtain ⟨rfl, h9⟩ := kS0_s h1
    exact ⟨Nat.le_of_ble_eq_true rfl, by refine GO.to (md_X9_count N) (kl := []) ((fun _ z => absurd z List.not_mem_nil)) 32 ?_ ?_ <;> rfl⟩
  cases hn
def T_X9_hasOutcome : List (Nat × Ent) := [(0, .aload_n 0, 1, []), (1, .getfield 21, 4, []), (4, .iload_n 1, 5, []), (5, .invokevirtual 104, 8, []), (8, .ifCond .eq 28, 11, [36]), (11, .iload_n 2, 12, []), (12, .iconst (-1), 13, []), (13, .if_icmp .lt 23, 16, [36]), (16, .iload_n 2, 17, []), (17, .aload_n 0, 18, []), (18, .getfield 21, 21, []), (21, .getfield 114, 24, []), (24, .iload_n 1, 25, []), (25, .laload, 26, []), (26, .invokestatic 117, 29, []), (29, .if_icmp .gt 7, 32, [36]), (32, .iconst 1, 33, []), (33, .goto 4, 36, [37]), (36, .iconst 0, 37, []), (37, .ireturn, 38, [])]
set_option maxRecDepth 200000 in
theorem tc_X9_hasOutcome : T_X9_hasOutcome.all (chk cX9_hasOutcome) = true := by decide +kernel
def f_X9_hasOutcome (N : Nat) (a1 : Int32) (a2 : Int32) (σ : Wd) : Option (Int32 × Wd) :=
  (f_X3_has N a1 σ).bind fun p1 => if p1.1 = 0 then (some (0, p1.2)) else (if a2 < (-1) then (some (0, p1.2)) else ((xldL p1.2 16 12 a1).bind fun v2 => (f_X0_width N v2 p1.2).bind fun p3 => if p3.1 < a2 then (some (0, p3.2)) else (some (1, p3.2))))
def a_X9_hasOutcome (N : Nat) : List Value → Wd → Option (Int32 × Wd) := fun as σ => kSE 0 as (fun r0 => kSI r0 (fun b1 r1 => kSI r1 (fun b2 r2 => kS0 r2 (f_X9_hasOutcome N b1 b2 σ)))) (none)
def ct_X9_hasOutcome (N : Nat) : List (Nat × Cal) := [(104, 2, 3, .inl (a_X3_has N)), (117, 1, 0, .inl (a_X0_width N))]
set_option maxRecDepth 200000 in
theorem md_X9_hasOutcome (N : Nat) : MDOK T_X9_hasOutcome ft_X9 lt_X9 (ct_X9_hasOutcome N) cX9_hasOutcome RX9 4 := ⟨tc_X9_hasOutcome, fc_X9, lc_X9, List.forall_mem_cons.mpr ⟨Or.inl ⟨yX3_has, cX3_has, 2, (some .boolean), 1, k_X9_104, Nat.le_of_ble_eq_true rfl, C_X3_has N⟩, List.forall_mem_cons.mpr ⟨Or.inl ⟨yX0_width, cX0_width, 4, (some .int), 3, k_X9_117, Nat.le_of_ble_eq_true rfl, C_X0_width N⟩, (fun _ z => absurd z List.not_mem_nil)⟩⟩⟩
set_option maxRecDepth 200000 in
theorem C_X9_hasOutcome (N : Nat) : CTI 4 yX9_hasOutcome cX9_hasOutcome 3 (some .boolean) (a_X9_hasOutcome N) := by
  refine CTZ.of (own := RX9) (by decide) rfl (fun as σ r h => ?_)
  unfold a_X9_hasOutcome at h
  rcases kSE_s h with ⟨r0, rfl, h0⟩ | hn
  ·
    obtain ⟨b1, r1, rfl, h1⟩ := kSI_s h0
    obtain ⟨b2, r2, rfl, h2⟩ := kSI_s h1
    obtain ⟨rfl, h9⟩ := kS0_s h2
    exact ⟨Nat.le_of_ble_eq_true rfl, by refine GO.to (md_X9_hasOutcome N) (kl := []) ((fun _ z => absurd z List.not_mem_nil)) 25 ?_ ?_ <;> rfl⟩
  cases hn
def T_X9_buildNetOf : List (Nat × Ent) := [(0, .aload_n 0, 1, []), (1, .getfield 35, 4, []), (4, .invokevirtual 296, 7, []), (7, .aload_n 0, 8, []), (8, .getfield 35, 11, []), (11, .aload_n 0, 12, []), (12, .getfield 21, 15, []), (15, .getfield 114, 18, []), (18, .iload_n 1, 19, []), (19, .laload, 20, []), (20, .invokevirtual 299, 23, []), (23, .return_, 24, [])]
set_option maxRecDepth 200000 in
theorem tc_X9_buildNetOf : T_X9_buildNetOf.all (chk cX9_buildNetOf) = true := by decide +kernel
def f_X9_buildNetOf (N : Nat) (a1 : Int32) (σ : Wd) : Option Wd :=
  (f_X2_clear N σ).bind fun σ1 => (xldL σ1 16 12 a1).bind fun v2 => (f_X2_build N v2 σ1).bind fun σ3 => some σ3
def a_X9_buildNetOf (N : Nat) : List Value → Wd → Option Wd := fun as σ => kSE 0 as (fun r0 => kSI r0 (fun b1 r1 => kS0 r1 (f_X9_buildNetOf N b1 σ))) (none)
set_option maxRecDepth 200000 in
theorem k_X9_296 : calchk RX9 296 1 2 yX2_clear cX2_clear 2 none = true := by decide +kernel
set_option maxRecDepth 200000 in
theorem k_X9_299 : calchk RX9 299 2 2 yX2_build cX2_build 5 none = true := by decide +kernel
def ct_X9_buildNetOf (N : Nat) : List (Nat × Cal) := [(296, 1, 2, .inr (.inr (a_X2_clear N))), (299, 2, 2, .inr (.inr (a_X2_build N)))]
set_option maxRecDepth 200000 in
theorem md_X9_buildNetOf (N : Nat) : MDOK T_X9_buildNetOf ft_X9 lt_X9 (ct_X9_buildNetOf N) cX9_buildNetOf RX9 16 := ⟨tc_X9_buildNetOf, fc_X9, lc_X9, List.forall_mem_cons.mpr ⟨Or.inl ⟨yX2_clear, cX2_clear, 2, none, 1, k_X9_296, Nat.le_of_ble_eq_true rfl, C_X2_clear N⟩, List.forall_mem_cons.mpr ⟨Or.inl ⟨yX2_build, cX2_build, 5, none, 15, k_X9_299, Nat.le_of_ble_eq_true rfl, C_X2_build N⟩, (fun _ z => absurd z List.not_mem_nil)⟩⟩⟩
set_option maxRecDepth 200000 in
theorem C_X9_buildNetOf (N : Nat) : CTV 16 yX9_buildNetOf cX9_buildNetOf 2 none (a_X9_buildNetOf N) := by
  refine CTV.of (own := RX9) (by decide) rfl (fun as σ r h => ?_)
  unfold a_X9_buildNetOf at h
  rcases kSE_s h with ⟨r0, rfl, h0⟩ | hn
  ·
    obtain ⟨b1, r1, rfl, h1⟩ := kSI_s h0
    obtain ⟨rfl, h9⟩ := kS0_s h1
    exact ⟨Nat.le_of_ble_eq_true rfl, by refine GO.to (md_X9_buildNetOf N) (kl := []) ((fun _ z => absurd z List.not_mem_nil)) 17 ?_ ?_ <;> rfl⟩
  cases hn
def T_X9_gates : List (Nat × Ent) := [(0, .aload_n 0, 1, []), (1, .getfield 21, 4, []), (4, .iload_n 1, 5, []), (5, .invokevirtual 104, 8, []), (8, .ifCond .eq 13, 11, [21]), (11, .iload_n 2, 12, []), (12, .iconst (-1), 13, []), (13, .if_icmp .lt 8, 16, [21]), (16, .iload_n 2, 17, []), (17, .iconst 3, 18, []), (18, .if_icmp .le 5, 21, [23]), (21, .iconst (-1), 22, []), (22, .ireturn, 23, []), (23, .aload_n 0, 24, []), (24, .getfield 28, 27, []), (27, .aload_n 0, 28, []), (28, .getfield 21, 31, []), (31, .getfield 114, 34, []), (34, .iload_n 1, 35, []), (35, .laload, 36, []), (36, .invokevirtual 149, 39, []), (39, .aload_n 0, 40, []), (40, .iload_n 1, 41, []), (41, .invokevirtual 153, 44, []), (44, .aload_n 0, 45, []), (45, .getfield 35, 48, []), (48, .invokevirtual 156, 51, []), (51, .aload_n 0, 52, []), (52, .getfield 35, 55, []), (55, .iload_n 2, 56, []), (56, .invokevirtual 159, 59, []), (59, .ireturn, 60, [])]
set_option maxRecDepth 200000 in
theorem tc_X9_gates : T_X9_gates.all (chk cX9_gates) = true := by decide +kernel
def f_X9_gates (N : Nat) (a1 : Int32) (a2 : Int32) (σ : Wd) : Option (Int32 × Wd) :=
  (f_X3_has N a1 σ).bind fun p1 => if p1.1 = 0 then (some ((-1), p1.2)) else (if a2 < (-1) then (some ((-1), p1.2)) else (if a2 ≤ 3 then ((xldL p1.2 16 12 a1).bind fun v2 => (f_X1_ask N v2 p1.2).bind fun σ3 => (f_X9_buildNetOf N a1 σ3).bind fun σ4 => (f_X2_markUsed N σ4).bind fun σ5 => (f_X2_usedGates N a2 σ5).bind fun p6 => some (p6.1, p6.2)) else (some ((-1), p1.2))))
def a_X9_gates (N : Nat) : List Value → Wd → Option (Int32 × Wd) := fun as σ => kSE 0 as (fun r0 => kSI r0 (fun b1 r1 => kSI r1 (fun b2 r2 => kS0 r2 (f_X9_gates N b1 b2 σ)))) (none)
set_option maxRecDepth 200000 in
theorem k_X9_149 : calchk RX9 149 2 1 yX1_ask cX1_ask 5 none = true := by decide +kernel
set_option maxRecDepth 200000 in
theorem k_X9_153 : calchk RX9 153 2 9 yX9_buildNetOf cX9_buildNetOf 2 none = true := by decide +kernel
set_option maxRecDepth 200000 in
theorem k_X9_156 : calchk RX9 156 1 2 yX2_markUsed cX2_markUsed 2 none = true := by decide +kernel
set_option maxRecDepth 200000 in
theorem k_X9_159 : calchk RX9 159 2 2 yX2_usedGates cX2_usedGates 4 (some .int) = true := by decide +kernel
def ct_X9_gates (N : Nat) : List (Nat × Cal) := [(104, 2, 3, .inl (a_X3_has N)), (149, 2, 1, .inr (.inr (a_X1_ask N))), (153, 2, 9, .inr (.inr (a_X9_buildNetOf N))), (156, 1, 2, .inr (.inr (a_X2_markUsed N))), (159, 2, 2, .inl (a_X2_usedGates N))]
set_option maxRecDepth 200000 in
theorem md_X9_gates (N : Nat) : MDOK T_X9_gates ft_X9 lt_X9 (ct_X9_gates N) cX9_gates RX9 17 := ⟨tc_X9_gates, fc_X9, lc_X9, List.forall_mem_cons.mpr ⟨Or.inl ⟨yX3_has, cX3_has, 2, (some .boolean), 1, k_X9_104, Nat.le_of_ble_eq_true rfl, C_X3_has N⟩, List.forall_mem_cons.mpr ⟨Or.inl ⟨yX1_ask, cX1_ask, 5, none, 2, k_X9_149, Nat.le_of_ble_eq_true rfl, C_X1_ask N⟩, List.forall_mem_cons.mpr ⟨Or.inl ⟨yX9_buildNetOf, cX9_buildNetOf, 2, none, 16, k_X9_153, Nat.le_of_ble_eq_true rfl, C_X9_buildNetOf N⟩, List.forall_mem_cons.mpr ⟨Or.inl ⟨yX2_markUsed, cX2_markUsed, 2, none, 2, k_X9_156, Nat.le_of_ble_eq_true rfl, C_X2_markUsed N⟩, List.forall_mem_cons.mpr ⟨Or.inl ⟨yX2_usedGates, cX2_usedGates, 4, (some .int), 1, k_X9_159, Nat.le_of_ble_eq_true rfl, C_X2_usedGates N⟩, (fun _ z => absurd z List.not_mem_nil)⟩⟩⟩⟩⟩⟩
set_option maxRecDepth 200000 in
theorem C_X9_gates (N : Nat) : CTI 17 yX9_gates cX9_gates 3 (some .int) (a_X9_gates N) := by
  refine CTI.of (own := RX9) (by decide) rfl (fun as σ r h => ?_)
  unfold a_X9_gates at h
  rcases kSE_s h with ⟨r0, rfl, h0⟩ | hn
  ·
    obtain ⟨b1, r1, rfl, h1⟩ := kSI_s h0
    obtain ⟨b2, r2, rfl, h2⟩ := kSI_s h1
    obtain ⟨rfl, h9⟩ := kS0_s h2
    exact ⟨Nat.le_of_ble_eq_true rfl, by refine GO.to (md_X9_gates N) (kl := []) ((fun _ z => absurd z List.not_mem_nil)) 37 ?_ ?_ <;> rfl⟩
  cases hn
def T_X9_latest : List (Nat × Ent) := [(0, .aload_n 0, 1, []), (1, .iload_n 1, 2, []), (2, .iload_n 2, 3, []), (3, .invokevirtual 162, 6, []), (6, .ifCond .ne 5, 9, [11]), (9, .iconst (-1), 10, []), (10, .ireturn, 11, []), (11, .aload_n 0, 12, []), (12, .getfield 28, 15, []), (15, .aload_n 0, 16, []), (16, .getfield 21, 19, []), (19, .getfield 114, 22, []), (22, .iload_n 1, 23, []), (23, .laload, 24, []), (24, .invokevirtual 149, 27, []), (27, .aload_n 0, 28, []), (28, .iload_n 1, 29, []), (29, .invokevirtual 153, 32, []), (32, .aload_n 0, 33, []), (33, .getfield 42, 36, []), (36, .aload_n 0, 37, []), (37, .getfield 35, 40, []), (40, .invokevirtual 165, 43, []), (43, .aload_n 0, 44, []), (44, .getfield 42, 47, []), (47, .aload_n 0, 48, []), (48, .getfield 35, 51, []), (51, .iload_n 2, 52, []), (52, .invokevirtual 169, 55, []), (55, .ireturn, 56, [])]
set_option maxRecDepth 200000 in
theorem tc_X9_latest : T_X9_latest.all (chk cX9_latest) = true := by decide +kernel
def f_X9_latest (N : Nat) (a1 : Int32) (a2 : Int32) (σ : Wd) : Option (Int32 × Wd) :=
  (f_X9_hasOutcome N a1 a2 σ).bind fun p1 => if p1.1 = 0 then (some ((-1), p1.2)) else ((xldL p1.2 16 12 a1).bind fun v2 => (f_X1_ask N v2 p1.2).bind fun σ3 => (f_X9_buildNetOf N a1 σ3).bind fun σ4 => (f_X8_come N σ4).bind fun σ5 => (f_X8_ofOutcome N a2 σ5).bind fun p6 => some (p6.1, p6.2))
def a_X9_latest (N : Nat) : List Value → Wd → Option (Int32 × Wd) := fun as σ => kSE 0 as (fun r0 => kSI r0 (fun b1 r1 => kSI r1 (fun b2 r2 => kS0 r2 (f_X9_latest N b1 b2 σ)))) (none)
set_option maxRecDepth 200000 in
theorem k_X9_162 : calchk RX9 162 3 9 yX9_hasOutcome cX9_hasOutcome 3 (some .boolean) = true := by decide +kernel
set_option maxRecDepth 200000 in
theorem k_X9_165 : calchk RX9 165 2 8 yX8_come cX8_come 3 none = true := by decide +kernel
set_option maxRecDepth 200000 in
theorem k_X9_169 : calchk RX9 169 3 8 yX8_ofOutcome cX8_ofOutcome 3 (some .int) = true := by decide +kernel
def ct_X9_latest (N : Nat) : List (Nat × Cal) := [(162, 3, 9, .inl (a_X9_hasOutcome N)), (149, 2, 1, .inr (.inr (a_X1_ask N))), (153, 2, 9, .inr (.inr (a_X9_buildNetOf N))), (165, 2, 8, .inr (.inr (a_X8_come N))), (169, 3, 8, .inl (a_X8_ofOutcome N))]
set_option maxRecDepth 200000 in
theorem md_X9_latest (N : Nat) : MDOK T_X9_latest ft_X9 lt_X9 (ct_X9_latest N) cX9_latest RX9 17 := ⟨tc_X9_latest, fc_X9, lc_X9, List.forall_mem_cons.mpr ⟨Or.inl ⟨yX9_hasOutcome, cX9_hasOutcome, 3, (some .boolean), 4, k_X9_162, Nat.le_of_ble_eq_true rfl, C_X9_hasOutcome N⟩, List.forall_mem_cons.mpr ⟨Or.inl ⟨yX1_ask, cX1_ask, 5, none, 2, k_X9_149, Nat.le_of_ble_eq_true rfl, C_X1_ask N⟩, List.forall_mem_cons.mpr ⟨Or.inl ⟨yX9_buildNetOf, cX9_buildNetOf, 2, none, 16, k_X9_153, Nat.le_of_ble_eq_true rfl, C_X9_buildNetOf N⟩, List.forall_mem_cons.mpr ⟨Or.inl ⟨yX8_come, cX8_come, 3, none, 3, k_X9_165, Nat.le_of_ble_eq_true rfl, C_X8_come N⟩, List.forall_mem_cons.mpr ⟨Or.inl ⟨yX8_ofOutcome, cX8_ofOutcome, 3, (some .int), 3, k_X9_169, Nat.le_of_ble_eq_true rfl, C_X8_ofOutcome N⟩, (fun _ z => absurd z List.not_mem_nil)⟩⟩⟩⟩⟩⟩
set_option maxRecDepth 200000 in
theorem C_X9_latest (N : Nat) : CTI 17 yX9_latest cX9_latest 3 (some .int) (a_X9_latest N) := by
  refine CTI.of (own := RX9) (by decide) rfl (fun as σ r h => ?_)
  unfold a_X9_latest at h
  rcases kSE_s h with ⟨r0, rfl, h0⟩ | hn
  ·
    obtain ⟨b1, r1, rfl, h1⟩ := kSI_s h0
    obtain ⟨b2, r2, rfl, h2⟩ := kSI_s h1
    obtain ⟨rfl, h9⟩ := kS0_s h2
    exact ⟨Nat.le_of_ble_eq_true rfl, by refine GO.to (md_X9_latest N) (kl := []) ((fun _ z => absurd z List.not_mem_nil)) 35 ?_ ?_ <;> rfl⟩
  cases hn
def T_X9_deep : List (Nat × Ent) := [(0, .aload_n 0, 1, []), (1, .getfield 21, 4, []), (4, .iload_n 1, 5, []), (5, .invokevirtual 104, 8, []), (8, .ifCond .ne 5, 11, [13]), (11, .iconst (-1), 12, []), (12, .ireturn, 13, []), (13, .aload_n 0, 14, []), (14, .getfield 28, 17, []), (17, .aload_n 0, 18, []), (18, .getfield 21, 21, []), (21, .getfield 114, 24, []), (24, .iload_n 1, 25, []), (25, .laload, 26, []), (26, .invokevirtual 149, 29, []), (29, .aload_n 0, 30, []), (30, .iload_n 1, 31, []), (31, .invokevirtual 153, 34, []), (34, .aload_n 0, 35, []), (35, .getfield 42, 38, []), (38, .aload_n 0, 39, []), (39, .getfield 35, 42, []), (42, .invokevirtual 165, 45, []), (45, .aload_n 0, 46, []), (46, .getfield 42, 49, []), (49, .aload_n 0, 50, []), (50, .getfield 35, 53, []), (53, .invokevirtual 173, 56, []), (56, .ireturn, 57, [])]
set_option maxRecDepth 200000 in
theorem tc_X9_deep : T_X9_deep.all (chk cX9_deep) = true := by decide +kernel
def f_X9_deep (N : Nat) (a1 : Int32) (σ : Wd) : Option (Int32 × Wd) :=
  (f_X3_has N a1 σ).bind fun p1 => if p1.1 = 0 then (some ((-1), p1.2)) else ((xldL p1.2 16 12 a1).bind fun v2 => (f_X1_ask N v2 p1.2).bind fun σ3 => (f_X9_buildNetOf N a1 σ3).bind fun σ4 => (f_X8_come N σ4).bind fun σ5 => (f_X8_deepest N σ5).bind fun p6 => some (p6.1, p6.2))
def a_X9_deep (N : Nat) : List Value → Wd → Option (Int32 × Wd) := fun as σ => kSE 0 as (fun r0 => kSI r0 (fun b1 r1 => kS0 r1 (f_X9_deep N b1 σ))) (none)
set_option maxRecDepth 200000 in
theorem k_X9_173 : calchk RX9 173 2 8 yX8_deepest cX8_deepest 5 (some .int) = true := by decide +kernel
def ct_X9_deep (N : Nat) : List (Nat × Cal) := [(104, 2, 3, .inl (a_X3_has N)), (149, 2, 1, .inr (.inr (a_X1_ask N))), (153, 2, 9, .inr (.inr (a_X9_buildNetOf N))), (165, 2, 8, .inr (.inr (a_X8_come N))), (173, 2, 8, .inl (a_X8_deepest N))]
set_option maxRecDepth 200000 in
theorem md_X9_deep (N : Nat) : MDOK T_X9_deep ft_X9 lt_X9 (ct_X9_deep N) cX9_deep RX9 17 := ⟨tc_X9_deep, fc_X9, lc_X9, List.forall_mem_cons.mpr ⟨Or.inl ⟨yX3_has, cX3_has, 2, (some .boolean), 1, k_X9_104, Nat.le_of_ble_eq_true rfl, C_X3_has N⟩, List.forall_mem_cons.mpr ⟨Or.inl ⟨yX1_ask, cX1_ask, 5, none, 2, k_X9_149, Nat.le_of_ble_eq_true rfl, C_X1_ask N⟩, List.forall_mem_cons.mpr ⟨Or.inl ⟨yX9_buildNetOf, cX9_buildNetOf, 2, none, 16, k_X9_153, Nat.le_of_ble_eq_true rfl, C_X9_buildNetOf N⟩, List.forall_mem_cons.mpr ⟨Or.inl ⟨yX8_come, cX8_come, 3, none, 3, k_X9_165, Nat.le_of_ble_eq_true rfl, C_X8_come N⟩, List.forall_mem_cons.mpr ⟨Or.inl ⟨yX8_deepest, cX8_deepest, 5, (some .int), 4, k_X9_173, Nat.le_of_ble_eq_true rfl, C_X8_deepest N⟩, (fun _ z => absurd z List.not_mem_nil)⟩⟩⟩⟩⟩⟩
set_option maxRecDepth 200000 in
theorem C_X9_deep (N : Nat) : CTI 17 yX9_deep cX9_deep 2 (some .int) (a_X9_deep N) := by
  refine CTI.of (own := RX9) (by decide) rfl (fun as σ r h => ?_)
  unfold a_X9_deep at h
  rcases kSE_s h with ⟨r0, rfl, h0⟩ | hn
  ·
    obtain ⟨b1, r1, rfl, h1⟩ := kSI_s h0
    obtain ⟨rfl, h9⟩ := kS0_s h1
    exact ⟨Nat.le_of_ble_eq_true rfl, by refine GO.to (md_X9_deep N) (kl := []) ((fun _ z => absurd z List.not_mem_nil)) 34 ?_ ?_ <;> rfl⟩
  cases hn
def T_X9_hangs : List (Nat × Ent) := [(0, .aload_n 0, 1, []), (1, .getfield 21, 4, []), (4, .iload_n 1, 5, []), (5, .invokevirtual 104, 8, []), (8, .ifCond .ne 5, 11, [13]), (11, .iconst (-1), 12, []), (12, .ireturn, 13, []), (13, .aload_n 0, 14, []), (14, .iload_n 1, 15, []), (15, .invokevirtual 153, 18, []), (18, .aload_n 0, 19, []), (19, .getfield 42, 22, []), (22, .aload_n 0, 23, []), (23, .getfield 35, 26, []), (26, .invokevirtual 165, 29, []), (29, .aload_n 0, 30, []), (30, .getfield 42, 33, []), (33, .aload_n 0, 34, []), (34, .getfield 35, 37, []), (37, .invokevirtual 177, 40, []), (40, .aload_n 0, 41, []), (41, .getfield 42, 44, []), (44, .invokevirtual 180, 47, []), (47, .ireturn, 48, [])]
set_option maxRecDepth 200000 in
theorem tc_X9_hangs : T_X9_hangs.all (chk cX9_hangs) = true := by decide +kernel
def f_X9_hangs (N : Nat) (a1 : Int32) (σ : Wd) : Option (Int32 × Wd) :=
  (f_X3_has N a1 σ).bind fun p1 => if p1.1 = 0 then (some ((-1), p1.2)) else ((f_X9_buildNetOf N a1 p1.2).bind fun σ2 => (f_X8_come N σ2).bind fun σ3 => (f_X8_markHanging N σ3).bind fun σ4 => (f_X8_hangingInputs N σ4).bind fun p5 => some (p5.1, p5.2))
def a_X9_hangs (N : Nat) : List Value → Wd → Option (Int32 × Wd) := fun as σ => kSE 0 as (fun r0 => kSI r0 (fun b1 r1 => kS0 r1 (f_X9_hangs N b1 σ))) (none)
set_option maxRecDepth 200000 in
theorem k_X9_177 : calchk RX9 177 2 8 yX8_markHanging cX8_markHanging 4 none = true := by decide +kernel
set_option maxRecDepth 200000 in
theorem k_X9_180 : calchk RX9 180 1 8 yX8_hangingInputs cX8_hangingInputs 3 (some .int) = true := by decide +kernel
def ct_X9_hangs (N : Nat) : List (Nat × Cal) := [(104, 2, 3, .inl (a_X3_has N)), (153, 2, 9, .inr (.inr (a_X9_buildNetOf N))), (165, 2, 8, .inr (.inr (a_X8_come N))), (177, 2, 8, .inr (.inr (a_X8_markHanging N))), (180, 1, 8, .inl (a_X8_hangingInputs N))]
set_option maxRecDepth 200000 in
theorem md_X9_hangs (N : Nat) : MDOK T_X9_hangs ft_X9 lt_X9 (ct_X9_hangs N) cX9_hangs RX9 17 := ⟨tc_X9_hangs, fc_X9, lc_X9, List.forall_mem_cons.mpr ⟨Or.inl ⟨yX3_has, cX3_has, 2, (some .boolean), 1, k_X9_104, Nat.le_of_ble_eq_true rfl, C_X3_has N⟩, List.forall_mem_cons.mpr ⟨Or.inl ⟨yX9_buildNetOf, cX9_buildNetOf, 2, none, 16, k_X9_153, Nat.le_of_ble_eq_true rfl, C_X9_buildNetOf N⟩, List.forall_mem_cons.mpr ⟨Or.inl ⟨yX8_come, cX8_come, 3, none, 3, k_X9_165, Nat.le_of_ble_eq_true rfl, C_X8_come N⟩, List.forall_mem_cons.mpr ⟨Or.inl ⟨yX8_markHanging, cX8_markHanging, 4, none, 4, k_X9_177, Nat.le_of_ble_eq_true rfl, C_X8_markHanging N⟩, List.forall_mem_cons.mpr ⟨Or.inl ⟨yX8_hangingInputs, cX8_hangingInputs, 3, (some .int), 1, k_X9_180, Nat.le_of_ble_eq_true rfl, C_X8_hangingInputs N⟩, (fun _ z => absurd z List.not_mem_nil)⟩⟩⟩⟩⟩⟩
set_option maxRecDepth 200000 in
theorem C_X9_hangs (N : Nat) : CTI 17 yX9_hangs cX9_hangs 2 (some .int) (a_X9_hangs N) := by
  refine CTI.of (own := RX9) (by decide) rfl (fun as σ r h => ?_)
  unfold a_X9_hangs at h
  rcases kSE_s h with ⟨r0, rfl, h0⟩ | hn
  ·
    obtain ⟨b1, r1, rfl, h1⟩ := kSI_s h0
    obtain ⟨rfl, h9⟩ := kS0_s h1
    exact ⟨Nat.le_of_ble_eq_true rfl, by refine GO.to (md_X9_hangs N) (kl := []) ((fun _ z => absurd z List.not_mem_nil)) 29 ?_ ?_ <;> rfl⟩
  cases hn
def T_X9_times : List (Nat × Ent) := [(0, .aload_n 0, 1, []), (1, .getfield 21, 4, []), (4, .iload_n 1, 5, []), (5, .invokevirtual 104, 8, []), (8, .ifCond .ne 5, 11, [13]), (11, .iconst (-1), 12, []), (12, .ireturn, 13, []), (13, .aload_n 0, 14, []), (14, .iload_n 1, 15, []), (15, .invokevirtual 153, 18, []), (18, .aload_n 0, 19, []), (19, .getfield 42, 22, []), (22, .aload_n 0, 23, []), (23, .getfield 35, 26, []), (26, .invokevirtual 165, 29, []), (29, .aload_n 0, 30, []), (30, .getfield 42, 33, []), (33, .aload_n 0, 34, []), (34, .getfield 35, 37, []), (37, .invokevirtual 183, 40, []), (40, .ireturn, 41, [])]
set_option maxRecDepth 200000 in
theorem tc_X9_times : T_X9_times.all (chk cX9_times) = true := by decide +kernel
def f_X9_times (N : Nat) (a1 : Int32) (σ : Wd) : Option (Int32 × Wd) :=
  (f_X3_has N a1 σ).bind fun p1 => if p1.1 = 0 then (some ((-1), p1.2)) else ((f_X9_buildNetOf N a1 p1.2).bind fun σ2 => (f_X8_come N σ2).bind fun σ3 => (f_X8_unlikeTimes N σ3).bind fun p4 => some (p4.1, p4.2))
def a_X9_times (N : Nat) : List Value → Wd → Option (Int32 × Wd) := fun as σ => kSE 0 as (fun r0 => kSI r0 (fun b1 r1 => kS0 r1 (f_X9_times N b1 σ))) (none)
set_option maxRecDepth 200000 in
theorem k_X9_183 : calchk RX9 183 2 8 yX8_unlikeTimes cX8_unlikeTimes 5 (some .int) = true := by decide +kernel
def ct_X9_times (N : Nat) : List (Nat × Cal) := [(104, 2, 3, .inl (a_X3_has N)), (153, 2, 9, .inr (.inr (a_X9_buildNetOf N))), (165, 2, 8, .inr (.inr (a_X8_come N))), (183, 2, 8, .inl (a_X8_unlikeTimes N))]
set_option maxRecDepth 200000 in
theorem md_X9_times (N : Nat) : MDOK T_X9_times ft_X9 lt_X9 (ct_X9_times N) cX9_times RX9 17 := ⟨tc_X9_times, fc_X9, lc_X9, List.forall_mem_cons.mpr ⟨Or.inl ⟨yX3_has, cX3_has, 2, (some .boolean), 1, k_X9_104, Nat.le_of_ble_eq_true rfl, C_X3_has N⟩, List.forall_mem_cons.mpr ⟨Or.inl ⟨yX9_buildNetOf, cX9_buildNetOf, 2, none, 16, k_X9_153, Nat.le_of_ble_eq_true rfl, C_X9_buildNetOf N⟩, List.forall_mem_cons.mpr ⟨Or.inl ⟨yX8_come, cX8_come, 3, none, 3, k_X9_165, Nat.le_of_ble_eq_true rfl, C_X8_come N⟩, List.forall_mem_cons.mpr ⟨Or.inl ⟨yX8_unlikeTimes, cX8_unlikeTimes, 5, (some .int), 4, k_X9_183, Nat.le_of_ble_eq_true rfl, C_X8_unlikeTimes N⟩, (fun _ z => absurd z List.not_mem_nil)⟩⟩⟩⟩⟩
set_option maxRecDepth 200000 in
theorem C_X9_times (N : Nat) : CTI 17 yX9_times cX9_times 2 (some .int) (a_X9_times N) := by
  refine CTI.of (own := RX9) (by decide) rfl (fun as σ r h => ?_)
  unfold a_X9_times at h
  rcases kSE_s h with ⟨r0, rfl, h0⟩ | hn
  ·
    obtain ⟨b1, r1, rfl, h1⟩ := kSI_s h0
    obtain ⟨rfl, h9⟩ := kS0_s h1
    exact ⟨Nat.le_of_ble_eq_true rfl, by refine GO.to (md_X9_times N) (kl := []) ((fun _ z => absurd z List.not_mem_nil)) 26 ?_ ?_ <;> rfl⟩
  cases hn
def T_X9_adds : List (Nat × Ent) := [(0, .aload_n 0, 1, []), (1, .getfield 21, 4, []), (4, .iload_n 1, 5, []), (5, .invokevirtual 104, 8, []), (8, .ifCond .eq 25, 11, [33]), (11, .iload_n 2, 12, []), (12, .iload_n 3, 13, []), (13, .iload 4, 15, []), (15, .aload_n 0, 16, []), (16, .getfield 21, 19, []), (19, .getfield 114, 22, []), (22, .iload_n 1, 23, []), (23, .laload, 24, []), (24, .invokestatic 117, 27, []), (27, .invokestatic 186, 30, []), (30, .ifCond .ne 5, 33, [35]), (33, .iconst (-1), 34, []), (34, .ireturn, 35, []), (35, .aload_n 0, 36, []), (36, .iload_n 1, 37, []), (37, .invokevirtual 153, 40, []), (40, .aload_n 0, 41, []), (41, .getfield 42, 44, []), (44, .aload_n 0, 45, []), (45, .getfield 35, 48, []), (48, .iload_n 2, 49, []), (49, .iload_n 3, 50, []), (50, .iload 4, 52, []), (52, .invokevirtual 190, 55, []), (55, .aload_n 0, 56, []), (56, .getfield 42, 59, []), (59, .aload_n 0, 60, []), (60, .getfield 35, 63, []), (63, .invokevirtual 194, 66, []), (66, .ireturn, 67, [])]
set_option maxRecDepth 200000 in
theorem tc_X9_adds : T_X9_adds.all (chk cX9_adds) = true := by decide +kernel
def f_X9_adds (N : Nat) (a1 : Int32) (a2 : Int32) (a3 : Int32) (a4 : Int32) (σ : Wd) : Option (Int32 × Wd) :=
  (f_X3_has N a1 σ).bind fun p1 => if p1.1 = 0 then (some ((-1), p1.2)) else ((xldL p1.2 16 12 a1).bind fun v2 => (f_X0_width N v2 p1.2).bind fun p3 => (f_X9_areNumbers N a2 a3 a4 p3.1 p3.2).bind fun p4 => if p4.1 = 0 then (some ((-1), p4.2)) else ((f_X9_buildNetOf N a1 p4.2).bind fun σ5 => (f_X8_settle N a2 a3 a4 σ5).bind fun σ6 => (f_X8_outcomeBits N σ6).bind fun p7 => some (p7.1, p7.2)))
def a_X9_adds (N : Nat) : List Value → Wd → Option (Int32 × Wd) := fun as σ => kSE 0 as (fun r0 => kSI r0 (fun b1 r1 => kSI r1 (fun b2 r2 => kSI r2 (fun b3 r3 => kSI r3 (fun b4 r4 => kS0 r4 (f_X9_adds N b1 b2 b3 b4 σ)))))) (none)
set_option maxRecDepth 200000 in
theorem k_X9_190 : calchk RX9 190 5 8 yX8_settle cX8_settle 7 none = true := by decide +kernel
set_option maxRecDepth 200000 in
theorem k_X9_194 : calchk RX9 194 2 8 yX8_outcomeBits cX8_outcomeBits 4 (some .int) = true := by decide +kernel
def ct_X9_adds (N : Nat) : List (Nat × Cal) := [(104, 2, 3, .inl (a_X3_has N)), (117, 1, 0, .inl (a_X0_width N)), (186, 4, 0, .inl (a_X9_areNumbers N)), (153, 2, 9, .inr (.inr (a_X9_buildNetOf N))), (190, 5, 8, .inr (.inr (a_X8_settle N))), (194, 2, 8, .inl (a_X8_outcomeBits N))]
set_option maxRecDepth 200000 in
theorem md_X9_adds (N : Nat) : MDOK T_X9_adds ft_X9 lt_X9 (ct_X9_adds N) cX9_adds RX9 17 := ⟨tc_X9_adds, fc_X9, lc_X9, List.forall_mem_cons.mpr ⟨Or.inl ⟨yX3_has, cX3_has, 2, (some .boolean), 1, k_X9_104, Nat.le_of_ble_eq_true rfl, C_X3_has N⟩, List.forall_mem_cons.mpr ⟨Or.inl ⟨yX0_width, cX0_width, 4, (some .int), 3, k_X9_117, Nat.le_of_ble_eq_true rfl, C_X0_width N⟩, List.forall_mem_cons.mpr ⟨Or.inl ⟨yX9_areNumbers, cX9_areNumbers, 5, (some .boolean), 1, k_X9_186, Nat.le_of_ble_eq_true rfl, C_X9_areNumbers N⟩, List.forall_mem_cons.mpr ⟨Or.inl ⟨yX9_buildNetOf, cX9_buildNetOf, 2, none, 16, k_X9_153, Nat.le_of_ble_eq_true rfl, C_X9_buildNetOf N⟩, List.forall_mem_cons.mpr ⟨Or.inl ⟨yX8_settle, cX8_settle, 7, none, 3, k_X9_190, Nat.le_of_ble_eq_true rfl, C_X8_settle N⟩, List.forall_mem_cons.mpr ⟨Or.inl ⟨yX8_outcomeBits, cX8_outcomeBits, 4, (some .int), 2, k_X9_194, Nat.le_of_ble_eq_true rfl, C_X8_outcomeBits N⟩, (fun _ z => absurd z List.not_mem_nil)⟩⟩⟩⟩⟩⟩⟩
set_option maxRecDepth 200000 in
theorem C_X9_adds (N : Nat) : CTI 17 yX9_adds cX9_adds 5 (some .int) (a_X9_adds N) := by
  refine CTI.of (own := RX9) (by decide) rfl (fun as σ r h => ?_)
  unfold a_X9_adds at h
  rcases kSE_s h with ⟨r0, rfl, h0⟩ | hn
  ·
    obtain ⟨b1, r1, rfl, h1⟩ := kSI_s h0
    obtain ⟨b2, r2, rfl, h2⟩ := kSI_s h1
    obtain ⟨b3, r3, rfl, h3⟩ := kSI_s h2
    obtain ⟨b4, r4, rfl, h4⟩ := kSI_s h3
    obtain ⟨rfl, h9⟩ := kS0_s h4
    exact ⟨Nat.le_of_ble_eq_true rfl, by refine GO.to (md_X9_adds N) (kl := []) ((fun _ z => absurd z List.not_mem_nil)) 40 ?_ ?_ <;> rfl⟩
  cases hn
def T_X9_settles : List (Nat × Ent) := [(0, .aload_n 0, 1, []), (1, .iload_n 1, 2, []), (2, .iload_n 2, 3, []), (3, .invokevirtual 162, 6, []), (6, .ifCond .eq 26, 9, [32]), (9, .iload_n 3, 10, []), (10, .iload 4, 12, []), (12, .iload 5, 14, []), (14, .aload_n 0, 15, []), (15, .getfield 21, 18, []), (18, .getfield 114, 21, []), (21, .iload_n 1, 22, []), (22, .laload, 23, []), (23, .invokestatic 117, 26, []), (26, .invokestatic 186, 29, []), (29, .ifCond .ne 5, 32, [34]), (32, .iconst (-1), 33, []), (33, .ireturn, 34, []), (34, .aload_n 0, 35, []), (35, .iload_n 1, 36, []), (36, .invokevirtual 153, 39, []), (39, .aload_n 0, 40, []), (40, .getfield 42, 43, []), (43, .aload_n 0, 44, []), (44, .getfield 35, 47, []), (47, .iload_n 3, 48, []), (48, .iload 4, 50, []), (50, .iload 5, 52, []), (52, .invokevirtual 190, 55, []), (55, .aload_n 0, 56, []), (56, .getfield 42, 59, []), (59, .aload_n 0, 60, []), (60, .getfield 35, 63, []), (63, .iload_n 2, 64, []), (64, .invokevirtual 169, 67, []), (67, .ireturn, 68, [])]
set_option maxRecDepth 200000 in
theorem tc_X9_settles : T_X9_settles.all (chk cX9_settles) = true := by decide +kernel
def f_X9_settles (N : Nat) (a1 : Int32) (a2 : Int32) (a3 : Int32) (a4 : Int32) (a5 : Int32) (σ : Wd) : Option (Int32 × Wd) :=
  (f_X9_hasOutcome N a1 a2 σ).bind fun p1 => if p1.1 = 0 then (some ((-1), p1.2)) else ((xldL p1.2 16 12 a1).bind fun v2 => (f_X0_width N v2 p1.2).bind fun p3 => (f_X9_areNumbers N a3 a4 a5 p3.1 p3.2).bind fun p4 => if p4.1 = 0 then (some ((-1), p4.2)) else ((f_X9_buildNetOf N a1 p4.2).bind fun σ5 => (f_X8_settle N a3 a4 a5 σ5).bind fun σ6 => (f_X8_ofOutcome N a2 σ6).bind fun p7 => some (p7.1, p7.2)))
def a_X9_settles (N : Nat) : List Value → Wd → Option (Int32 × Wd) := fun as σ => kSE 0 as (fun r0 => kSI r0 (fun b1 r1 => kSI r1 (fun b2 r2 => kSI r2 (fun b3 r3 => kSI r3 (fun b4 r4 => kSI r4 (fun b5 r5 => kS0 r5 (f_X9_settles N b1 b2 b3 b4 b5 σ))))))) (none)
def ct_X9_settles (N : Nat) : List (Nat × Cal) := [(162, 3, 9, .inl (a_X9_hasOutcome N)), (117, 1, 0, .inl (a_X0_width N)), (186, 4, 0, .inl (a_X9_areNumbers N)), (153, 2, 9, .inr (.inr (a_X9_buildNetOf N))), (190, 5, 8, .inr (.inr (a_X8_settle N))), (169, 3, 8, .inl (a_X8_ofOutcome N))]
set_option maxRecDepth 200000 in
theorem md_X9_settles (N : Nat) : MDOK T_X9_settles ft_X9 lt_X9 (ct_X9_settles N) cX9_settles RX9 17 := ⟨tc_X9_settles, fc_X9, lc_X9, List.forall_mem_cons.mpr ⟨Or.inl ⟨yX9_hasOutcome, cX9_hasOutcome, 3, (some .boolean), 4, k_X9_162, Nat.le_of_ble_eq_true rfl, C_X9_hasOutcome N⟩, List.forall_mem_cons.mpr ⟨Or.inl ⟨yX0_width, cX0_width, 4, (some .int), 3, k_X9_117, Nat.le_of_ble_eq_true rfl, C_X0_width N⟩, List.forall_mem_cons.mpr ⟨Or.inl ⟨yX9_areNumbers, cX9_areNumbers, 5, (some .boolean), 1, k_X9_186, Nat.le_of_ble_eq_true rfl, C_X9_areNumbers N⟩, List.forall_mem_cons.mpr ⟨Or.inl ⟨yX9_buildNetOf, cX9_buildNetOf, 2, none, 16, k_X9_153, Nat.le_of_ble_eq_true rfl, C_X9_buildNetOf N⟩, List.forall_mem_cons.mpr ⟨Or.inl ⟨yX8_settle, cX8_settle, 7, none, 3, k_X9_190, Nat.le_of_ble_eq_true rfl, C_X8_settle N⟩, List.forall_mem_cons.mpr ⟨Or.inl ⟨yX8_ofOutcome, cX8_ofOutcome, 3, (some .int), 3, k_X9_169, Nat.le_of_ble_eq_true rfl, C_X8_ofOutcome N⟩, (fun _ z => absurd z List.not_mem_nil)⟩⟩⟩⟩⟩⟩⟩
set_option maxRecDepth 200000 in
theorem C_X9_settles (N : Nat) : CTI 17 yX9_settles cX9_settles 6 (some .int) (a_X9_settles N) := by
  refine CTI.of (own := RX9) (by decide) rfl (fun as σ r h => ?_)
  unfold a_X9_settles at h
  rcases kSE_s h with ⟨r0, rfl, h0⟩ | hn
  ·
    obtain ⟨b1, r1, rfl, h1⟩ := kSI_s h0
    obtain ⟨b2, r2, rfl, h2⟩ := kSI_s h1
    obtain ⟨b3, r3, rfl, h3⟩ := kSI_s h2
    obtain ⟨b4, r4, rfl, h4⟩ := kSI_s h3
    obtain ⟨b5, r5, rfl, h5⟩ := kSI_s h4
    obtain ⟨rfl, h9⟩ := kS0_s h5
    exact ⟨Nat.le_of_ble_eq_true rfl, by refine GO.to (md_X9_settles N) (kl := []) ((fun _ z => absurd z List.not_mem_nil)) 41 ?_ ?_ <;> rfl⟩
  cases hn
def T_X9_slowest : List (Nat × Ent) := [(0, .aload_n 0, 1, []), (1, .getfield 21, 4, []), (4, .iload_n 1, 5, []), (5, .invokevirtual 104, 8, []), (8, .ifCond .eq 12, 11, [20]), (11, .iload_n 2, 12, []), (12, .ifCond .lt 8, 15, [20]), (15, .iload_n 2, 16, []), (16, .iconst 3, 17, []), (17, .if_icmp .le 5, 20, [22]), (20, .iconst (-1), 21, []), (21, .ireturn, 22, []), (22, .aload_n 0, 23, []), (23, .getfield 21, 26, []), (26, .getfield 114, 29, []), (29, .iload_n 1, 30, []), (30, .laload, 31, []), (31, .lstore_n 3, 32, []), (32, .lload_n 3, 33, []), (33, .invokestatic 117, 36, []), (36, .iconst 4, 37, []), (37, .if_icmp .le 6, 40, [43]), (40, .bipush (-7), 42, []), (42, .ireturn, 43, []), (43, .aload_n 0, 44, []), (44, .getfield 49, 47, []), (47, .aload_n 0, 48, []), (48, .getfield 35, 51, []), (51, .aload_n 0, 52, []), (52, .getfield 42, 55, []), (55, .lload_n 3, 56, []), (56, .invokevirtual 197, 59, []), (59, .aload_n 0, 60, []), (60, .getfield 49, 63, []), (63, .iload_n 2, 64, []), (64, .invokevirtual 201, 67, []), (67, .ireturn, 68, [])]
set_option maxRecDepth 200000 in
theorem tc_X9_slowest : T_X9_slowest.all (chk cX9_slowest) = true := by decide +kernel
def f_X9_slowest (N : Nat) (a1 : Int32) (a2 : Int32) (σ : Wd) : Option (Int32 × Wd) :=
  (f_X3_has N a1 σ).bind fun p1 => if p1.1 = 0 then (some ((-1), p1.2)) else (if a2 < 0 then (some ((-1), p1.2)) else (if a2 ≤ 3 then ((xldL p1.2 16 12 a1).bind fun v2 => (f_X0_width N v2 p1.2).bind fun p3 => if p3.1 ≤ 4 then ((f_X6_over N v2 p3.2).bind fun σ4 => (f_X6_worst N a2 σ4).bind fun p5 => some (p5.1, p5.2)) else (some ((-7), p3.2))) else (some ((-1), p1.2))))
def a_X9_slowest (N : Nat) : List Value → Wd → Option (Int32 × Wd) := fun as σ => kSE 0 as (fun r0 => kSI r0 (fun b1 r1 => kSI r1 (fun b2 r2 => kS0 r2 (f_X9_slowest N b1 b2 σ)))) (none)
set_option maxRecDepth 200000 in
theorem k_X9_197 : calchk RX9 197 4 6 yX6_over cX6_over 6 none = true := by decide +kernel
set_option maxRecDepth 200000 in
theorem k_X9_201 : calchk RX9 201 2 6 yX6_worst cX6_worst 4 (some .int) = true := by decide +kernel
def ct_X9_slowest (N : Nat) : List (Nat × Cal) := [(104, 2, 3, .inl (a_X3_has N)), (117, 1, 0, .inl (a_X0_width N)), (197, 4, 6, .inr (.inr (a_X6_over N))), (201, 2, 6, .inl (a_X6_worst N))]
set_option maxRecDepth 200000 in
theorem md_X9_slowest (N : Nat) : MDOK T_X9_slowest ft_X9 lt_X9 (ct_X9_slowest N) cX9_slowest RX9 17 := ⟨tc_X9_slowest, fc_X9, lc_X9, List.forall_mem_cons.mpr ⟨Or.inl ⟨yX3_has, cX3_has, 2, (some .boolean), 1, k_X9_104, Nat.le_of_ble_eq_true rfl, C_X3_has N⟩, List.forall_mem_cons.mpr ⟨Or.inl ⟨yX0_width, cX0_width, 4, (some .int), 3, k_X9_117, Nat.le_of_ble_eq_true rfl, C_X0_width N⟩, List.forall_mem_cons.mpr ⟨Or.inl ⟨yX6_over, cX6_over, 6, none, 16, k_X9_197, Nat.le_of_ble_eq_true rfl, C_X6_over N⟩, List.forall_mem_cons.mpr ⟨Or.inl ⟨yX6_worst, cX6_worst, 4, (some .int), 2, k_X9_201, Nat.le_of_ble_eq_true rfl, C_X6_worst N⟩, (fun _ z => absurd z List.not_mem_nil)⟩⟩⟩⟩⟩
set_option maxRecDepth 200000 in
theorem C_X9_slowest (N : Nat) : CTI 17 yX9_slowest cX9_slowest 5 (some .int) (a_X9_slowest N) := by
  refine CTI.of (own := RX9) (by decide) rfl (fun as σ r h => ?_)
  unfold a_X9_slowest at h
  rcases kSE_s h with ⟨r0, rfl, h0⟩ | hn
  ·
    obtain ⟨b1, r1, rfl, h1⟩ := kSI_s h0
    obtain ⟨b2, r2, rfl, h2⟩ := kSI_s h1
    obtain ⟨rfl, h9⟩ := kS0_s h2
    exact ⟨Nat.le_of_ble_eq_true rfl, by refine GO.to (md_X9_slowest N) (kl := []) ((fun _ z => absurd z List.not_mem_nil)) 42 ?_ ?_ <;> rfl⟩
  cases hn
def T_X9_intime : List (Nat × Ent) := [(0, .aload_n 0, 1, []), (1, .getfield 21, 4, []), (4, .iload_n 1, 5, []), (5, .invokevirtual 104, 8, []), (8, .ifCond .eq 14, 11, [22]), (11, .iload_n 2, 12, []), (12, .ifCond .lt 10, 15, [22]), (15, .iload_n 2, 16, []), (16, .sipush 999, 19, []), (19, .if_icmp .le 5, 22, [24]), (22, .iconst (-1), 23, []), (23, .ireturn, 24, []), (24, .aload_n 0, 25, []), (25, .getfield 21, 28, []), (28, .getfield 114, 31, []), (31, .iload_n 1, 32, []), (32, .laload, 33, []), (33, .lstore_n 3, 34, []), (34, .lload_n 3, 35, []), (35, .invokestatic 117, 38, []), (38, .iconst 4, 39, []), (39, .if_icmp .le 6, 42, [45]), (42, .bipush (-7), 44, []), (44, .ireturn, 45, []), (45, .aload_n 0, 46, []), (46, .getfield 49, 49, []), (49, .aload_n 0, 50, []), (50, .getfield 35, 53, []), (53, .aload_n 0, 54, []), (54, .getfield 42, 57, []), (57, .lload_n 3, 58, []), (58, .invokevirtual 197, 61, []), (61, .aload_n 0, 62, []), (62, .getfield 49, 65, []), (65, .iload_n 2, 66, []), (66, .invokevirtual 204, 69, []), (69, .ireturn, 70, [])]
set_option maxRecDepth 200000 in
theorem tc_X9_intime : T_X9_intime.all (chk cX9_intime) = true := by decide +kernel
def f_X9_intime (N : Nat) (a1 : Int32) (a2 : Int32) (σ : Wd) : Option (Int32 × Wd) :=
  (f_X3_has N a1 σ).bind fun p1 => if p1.1 = 0 then (some ((-1), p1.2)) else (if a2 < 0 then (some ((-1), p1.2)) else (if a2 ≤ 999 then ((xldL p1.2 16 12 a1).bind fun v2 => (f_X0_width N v2 p1.2).bind fun p3 => if p3.1 ≤ 4 then ((f_X6_over N v2 p3.2).bind fun σ4 => (f_X6_settledBy N a2 σ4).bind fun p5 => some (p5.1, p5.2)) else (some ((-7), p3.2))) else (some ((-1), p1.2))))
def a_X9_intime (N : Nat) : List Value → Wd → Option (Int32 × Wd) := fun as σ => kSE 0 as (fun r0 => kSI r0 (fun b1 r1 => kSI r1 (fun b2 r2 => kS0 r2 (f_X9_intime N b1 b2 σ)))) (none)
set_option maxRecDepth 200000 in
theorem k_X9_204 : calchk RX9 204 2 6 yX6_settledBy cX6_settledBy 4 (some .int) = true := by decide +kernel
def ct_X9_intime (N : Nat) : List (Nat × Cal) := [(104, 2, 3, .inl (a_X3_has N)), (117, 1, 0, .inl (a_X0_width N)), (197, 4, 6, .inr (.inr (a_X6_over N))), (204, 2, 6, .inl (a_X6_settledBy N))]
set_option maxRecDepth 200000 in
theorem md_X9_intime (N : Nat) : MDOK T_X9_intime ft_X9 lt_X9 (ct_X9_intime N) cX9_intime RX9 17 := ⟨tc_X9_intime, fc_X9, lc_X9, List.forall_mem_cons.mpr ⟨Or.inl ⟨yX3_has, cX3_has, 2, (some .boolean), 1, k_X9_104, Nat.le_of_ble_eq_true rfl, C_X3_has N⟩, List.forall_mem_cons.mpr ⟨Or.inl ⟨yX0_width, cX0_width, 4, (some .int), 3, k_X9_117, Nat.le_of_ble_eq_true rfl, C_X0_width N⟩, List.forall_mem_cons.mpr ⟨Or.inl ⟨yX6_over, cX6_over, 6, none, 16, k_X9_197, Nat.le_of_ble_eq_true rfl, C_X6_over N⟩, List.forall_mem_cons.mpr ⟨Or.inl ⟨yX6_settledBy, cX6_settledBy, 4, (some .int), 2, k_X9_204, Nat.le_of_ble_eq_true rfl, C_X6_settledBy N⟩, (fun _ z => absurd z List.not_mem_nil)⟩⟩⟩⟩⟩
set_option maxRecDepth 200000 in
theorem C_X9_intime (N : Nat) : CTI 17 yX9_intime cX9_intime 5 (some .int) (a_X9_intime N) := by
  refine CTI.of (own := RX9) (by decide) rfl (fun as σ r h => ?_)
  unfold a_X9_intime at h
  rcases kSE_s h with ⟨r0, rfl, h0⟩ | hn
  ·
    obtain ⟨b1, r1, rfl, h1⟩ := kSI_s h0
    obtain ⟨b2, r2, rfl, h2⟩ := kSI_s h1
    obtain ⟨rfl, h9⟩ := kS0_s h2
    exact ⟨Nat.le_of_ble_eq_true rfl, by refine GO.to (md_X9_intime N) (kl := []) ((fun _ z => absurd z List.not_mem_nil)) 42 ?_ ?_ <;> rfl⟩
  cases hn
def T_X9_shared : List (Nat × Ent) := [(0, .aload_n 0, 1, []), (1, .getfield 21, 4, []), (4, .iload_n 1, 5, []), (5, .invokevirtual 104, 8, []), (8, .ifCond .eq 14, 11, [22]), (11, .aload_n 0, 12, []), (12, .getfield 21, 15, []), (15, .iload_n 2, 16, []), (16, .invokevirtual 104, 19, []), (19, .ifCond .ne 5, 22, [24]), (22, .iconst (-1), 23, []), (23, .ireturn, 24, []), (24, .aload_n 0, 25, []), (25, .getfield 35, 28, []), (28, .aload_n 0, 29, []), (29, .getfield 21, 32, []), (32, .getfield 114, 35, []), (35, .iload_n 1, 36, []), (36, .laload, 37, []), (37, .aload_n 0, 38, []), (38, .getfield 21, 41, []), (41, .getfield 114, 44, []), (44, .iload_n 2, 45, []), (45, .laload, 46, []), (46, .invokevirtual 207, 49, []), (49, .ireturn, 50, [])]
set_option maxRecDepth 200000 in
theorem tc_X9_shared : T_X9_shared.all (chk cX9_shared) = true := by decide +kernel
def f_X9_shared (N : Nat) (a1 : Int32) (a2 : Int32) (σ : Wd) : Option (Int32 × Wd) :=
  (f_X3_has N a1 σ).bind fun p1 => if p1.1 = 0 then (some ((-1), p1.2)) else ((f_X3_has N a2 p1.2).bind fun p2 => if p2.1 = 0 then (some ((-1), p2.2)) else ((xldL p2.2 16 12 a1).bind fun v3 => (xldL p2.2 16 12 a2).bind fun v4 => (f_X2_gatesOfBoth N v3 v4 p2.2).bind fun p5 => some (p5.1, p5.2)))
def a_X9_shared (N : Nat) : List Value → Wd → Option (Int32 × Wd) := fun as σ => kSE 0 as (fun r0 => kSI r0 (fun b1 r1 => kSI r1 (fun b2 r2 => kS0 r2 (f_X9_shared N b1 b2 σ)))) (none)
set_option maxRecDepth 200000 in
theorem k_X9_207 : calchk RX9 207 3 2 yX2_gatesOfBoth cX2_gatesOfBoth 8 (some .int) = true := by decide +kernel
def ct_X9_shared (N : Nat) : List (Nat × Cal) := [(104, 2, 3, .inl (a_X3_has N)), (207, 3, 2, .inl (a_X2_gatesOfBoth N))]
set_option maxRecDepth 200000 in
theorem md_X9_shared (N : Nat) : MDOK T_X9_shared ft_X9 lt_X9 (ct_X9_shared N) cX9_shared RX9 17 := ⟨tc_X9_shared, fc_X9, lc_X9, List.forall_mem_cons.mpr ⟨Or.inl ⟨yX3_has, cX3_has, 2, (some .boolean), 1, k_X9_104, Nat.le_of_ble_eq_true rfl, C_X3_has N⟩, List.forall_mem_cons.mpr ⟨Or.inl ⟨yX2_gatesOfBoth, cX2_gatesOfBoth, 8, (some .int), 16, k_X9_207, Nat.le_of_ble_eq_true rfl, C_X2_gatesOfBoth N⟩, (fun _ z => absurd z List.not_mem_nil)⟩⟩⟩
set_option maxRecDepth 200000 in
theorem C_X9_shared (N : Nat) : CTI 17 yX9_shared cX9_shared 3 (some .int) (a_X9_shared N) := by
  refine CTI.of (own := RX9) (by decide) rfl (fun as σ r h => ?_)
  unfold a_X9_shared at h
  rcases kSE_s h with ⟨r0, rfl, h0⟩ | hn
  ·
    obtain ⟨b1, r1, rfl, h1⟩ := kSI_s h0
    obtain ⟨b2, r2, rfl, h2⟩ := kSI_s h1
    obtain ⟨rfl, h9⟩ := kS0_s h2
    exact ⟨Nat.le_of_ble_eq_true rfl, by refine GO.to (md_X9_shared N) (kl := []) ((fun _ z => absurd z List.not_mem_nil)) 31 ?_ ?_ <;> rfl⟩
  cases hn
def T_X9_into : List (Nat × Ent) := [(0, .iload_n 1, 1, []), (1, .invokestatic 245, 4, []), (4, .ifCond .eq 14, 7, [18]), (7, .aload_n 0, 8, []), (8, .getfield 21, 11, []), (11, .iload_n 2, 12, []), (12, .invokevirtual 104, 15, []), (15, .ifCond .ne 5, 18, [20]), (18, .iconst (-1), 19, []), (19, .ireturn, 20, []), (20, .aload_n 0, 21, []), (21, .getfield 62, 24, []), (24, .iload_n 1, 25, []), (25, .aaload, 26, []), (26, .astore_n 3, 27, []), (27, .aload_n 3, 28, []), (28, .getfield 248, 31, []), (31, .ifCond .eq 19, 34, [50]), (34, .aload_n 3, 35, []), (35, .getfield 248, 38, []), (38, .iconst (-1), 39, []), (39, .if_icmp .ne 8, 42, [47]), (42, .bipush (-11), 44, []), (44, .goto 5, 47, [49]), (47, .bipush (-12), 49, []), (49, .ireturn, 50, []), (50, .aload_n 0, 51, []), (51, .iload_n 2, 52, []), (52, .invokevirtual 153, 55, []), (55, .aload_n 0, 56, []), (56, .getfield 42, 59, []), (59, .aload_n 0, 60, []), (60, .getfield 35, 63, []), (63, .invokevirtual 165, 66, []), (66, .aload_n 3, 67, []), (67, .getfield 267, 70, []), (70, .aload_n 0, 71, []), (71, .getfield 35, 74, []), (74, .getfield 273, 77, []), (77, .iconst 1, 78, []), (78, .iadd, 79, []), (79, .invokestatic 275, 82, []), (82, .istore 4, 84, []), (84, .iconst 0, 85, []), (85, .istore 5, 87, []), (87, .iload 5, 89, []), (89, .iload 4, 91, []), (91, .if_icmp .ge 30, 94, [121]), (94, .aload_n 3, 95, []), (95, .getfield 270, 98, []), (98, .iload 5, 100, []), (100, .aload_n 0, 101, []), (101, .getfield 42, 104, []), (104, .aload_n 0, 105, []), (105, .getfield 35, 108, []), (108, .iload 5, 110, []), (110, .invokevirtual 169, 113, []), (113, .i2l, 114, []), (114, .lastore, 115, []), (115, .iinc 5 1, 118, []), (118, .goto (-31), 121, [87]), (121, .iload 4, 123, []), (123, .ireturn, 124, [])]
set_option maxRecDepth 200000 in
theorem tc_X9_into : T_X9_into.all (chk cX9_into) = true := by decide +kernel
def f_X9_into_L87 (N : Nat) (KO121 : Int32 → Wd → Option (Int32 × Wd)) : Nat → Nat → Int32 → Int32 → Wd → Option (Int32 × Wd)
  | 0, _, _, _, _ => none
  | n + 1, k3, x4, x5, σ => if x4 ≤ x5 then (KO121 x4 σ) else ((f_X8_ofOutcome N x5 σ).bind fun p7 => (xstL p7.2 (k3 + 28) 20 x5 (Int32.toInt64 p7.1)).bind fun σ8 => f_X9_into_L87 N KO121 n k3 x4 (x5 + 1) σ8)
def f_X9_into_J121 (N : Nat) (x4 : Int32) (σ : Wd) : Option (Int32 × Wd) :=
  some (x4, σ)
def f_X9_into (N : Nat) (a1 : Int32) (a2 : Int32) (σ : Wd) : Option (Int32 × Wd) :=
  (f_X9_isShelf N a1 σ).bind fun p1 => if p1.1 = 0 then (some ((-1), p1.2)) else ((f_X3_has N a2 p1.2).bind fun p2 => if p2.1 = 0 then (some ((-1), p2.2)) else (xsh a1 fun k3 => if (p2.2.1 k3 1) = 0 then ((f_X9_buildNetOf N a2 p2.2).bind fun σ4 => (f_X8_come N σ4).bind fun σ5 => (f_J9_min_7cf53 N (σ5.1 k3 2) ((σ5.1 4 6) + 1) σ5).bind fun p6 => f_X9_into_L87 N (f_X9_into_J121 N) N k3 p6.1 0 p6.2) else (if (p2.2.1 k3 1) = (-1) then (some ((-11), p2.2)) else (some ((-12), p2.2)))))
def a_X9_into (N : Nat) : List Value → Wd → Option (Int32 × Wd) := fun as σ => kSE 0 as (fun r0 => kSI r0 (fun b1 r1 => kSI r1 (fun b2 r2 => kS0 r2 (f_X9_into N b1 b2 σ)))) (none)
set_option maxRecDepth 200000 in
theorem k_X9_275 : mmchk RX9 275 Lib.Math.min.name Lib.Math.min.code = true := by decide +kernel
def ct_X9_into (N : Nat) : List (Nat × Cal) := [(245, 1, 0, .inl (a_X9_isShelf N)), (104, 2, 3, .inl (a_X3_has N)), (153, 2, 9, .inr (.inr (a_X9_buildNetOf N))), (165, 2, 8, .inr (.inr (a_X8_come N))), (275, 2, 0, .inl amin), (169, 3, 8, .inl (a_X8_ofOutcome N))]
set_option maxRecDepth 200000 in
theorem md_X9_into (N : Nat) : MDOK T_X9_into ft_X9 lt_X9 (ct_X9_into N) cX9_into RX9 17 := ⟨tc_X9_into, fc_X9, lc_X9, List.forall_mem_cons.mpr ⟨Or.inl ⟨yX9_isShelf, cX9_isShelf, 1, (some .boolean), 1, k_X9_245, Nat.le_of_ble_eq_true rfl, C_X9_isShelf N⟩, List.forall_mem_cons.mpr ⟨Or.inl ⟨yX3_has, cX3_has, 2, (some .boolean), 1, k_X9_104, Nat.le_of_ble_eq_true rfl, C_X3_has N⟩, List.forall_mem_cons.mpr ⟨Or.inl ⟨yX9_buildNetOf, cX9_buildNetOf, 2, none, 16, k_X9_153, Nat.le_of_ble_eq_true rfl, C_X9_buildNetOf N⟩, List.forall_mem_cons.mpr ⟨Or.inl ⟨yX8_come, cX8_come, 3, none, 3, k_X9_165, Nat.le_of_ble_eq_true rfl, C_X8_come N⟩, List.forall_mem_cons.mpr ⟨Or.inr (Or.inr ⟨rfl, k_X9_275, Nat.le_of_ble_eq_true rfl⟩), List.forall_mem_cons.mpr ⟨Or.inl ⟨yX8_ofOutcome, cX8_ofOutcome, 3, (some .int), 3, k_X9_169, Nat.le_of_ble_eq_true rfl, C_X8_ofOutcome N⟩, (fun _ z => absurd z List.not_mem_nil)⟩⟩⟩⟩⟩⟩⟩
set_option maxRecDepth 200000 in
theorem g_X9_into_L87 (N : Nat) (KO121 : Int32 → Wd → Option (Int32 × Wd)) (hKO121 : ∀ (x4 : Int32) (σ : Wd), GO cX9_into RX9 6 17 sc0 rI nJ0 nV0 (KO121 x4 σ) 121 (mkp 0 6 [(4, .int x4)]) [] σ) : ∀ (n : Nat), ∀ (k3 : Nat) (hk3 : (k3 = 9 ∨ k3 = 10 ∨ k3 = 11 ∨ k3 = 12)) (x4 : Int32) (x5 : Int32) (σ : Wd), GO cX9_into RX9 6 17 sc0 rI nJ0 nV0 (f_X9_into_L87 N KO121 n k3 x4 x5 σ) 87 (mkp 0 6 [(0, .ref 0), (3, .ref k3), (4, .int x4), (5, .int x5)]) [] σ
  | 0, k3, hk3, x4, x5, σ => GO.none
  | n + 1, k3, hk3, x4, x5, σ => by
    rcases hk3 with rfl | rfl | rfl | rfl
    · exact (by refine GO.to (md_X9_into N) (kl := [(121, fun vs st σ => kS0 st (kI 4 vs (fun x4 => KO121 x4 σ))), (87, fun vs st σ => kS0 st (kA 0 0 vs (kAE 3 9 vs (kI 4 vs (fun x4 => kI 5 vs (fun x5 => f_X9_into_L87 N KO121 n 9 x4 x5 σ))) (kAE 3 10 vs (kI 4 vs (fun x4 => kI 5 vs (fun x5 => f_X9_into_L87 N KO121 n 10 x4 x5 σ))) (kAE 3 11 vs (kI 4 vs (fun x4 => kI 5 vs (fun x5 => f_X9_into_L87 N KO121 n 11 x4 x5 σ))) (kAE 3 12 vs (kI 4 vs (fun x4 => kI 5 vs (fun x5 => f_X9_into_L87 N KO121 n 12 x4 x5 σ))) (none)))))))]) (List.forall_mem_cons.mpr ⟨fun vs st σ => go_kS0 (go_kI (fun x4 h4 => GO.pat [(4, .int x4)] ⟨h4, trivial⟩ (hKO121 x4 σ))), List.forall_mem_cons.mpr ⟨fun vs st σ => go_kS0 (go_kA (fun h0 => go_kAE (fun h3 => go_kI (fun x4 h4 => go_kI (fun x5 h5 => GO.pat [(0, .ref 0), (3, .ref 9), (4, .int x4), (5, .int x5)] ⟨h0, h3, h4, h5, trivial⟩ (g_X9_into_L87 N KO121 hKO121 n 9 (Or.inl rfl) x4 x5 σ)))) (go_kAE (fun h3 => go_kI (fun x4 h4 => go_kI (fun x5 h5 => GO.pat [(0, .ref 0), (3, .ref 10), (4, .int x4), (5, .int x5)] ⟨h0, h3, h4, h5, trivial⟩ (g_X9_into_L87 N KO121 hKO121 n 10 (Or.inr (Or.inl rfl)) x4 x5 σ)))) (go_kAE (fun h3 => go_kI (fun x4 h4 => go_kI (fun x5 h5 => GO.pat [(0, .ref 0), (3, .ref 11), (4, .int x4), (5, .int x5)] ⟨h0, h3, h4, h5, trivial⟩ (g_X9_into_L87 N KO121 hKO121 n 11 (Or.inr (Or.inr (Or.inl rfl))) x4 x5 σ)))) (go_kAE (fun h3 => go_kI (fun x4 h4 => go_kI (fun x5 h5 => GO.pat [(0, .ref 0), (3, .ref 12), (4, .int x4), (5, .int x5)] ⟨h0, h3, h4, h5, trivial⟩ (g_X9_into_L87 N KO121 hKO121 n 12 (Or.inr (Or.inr (Or.inr rfl))) x4 x5 σ)))) (GO.none)))))), (fun _ z => absurd z List.not_mem_nil)⟩⟩) 68 ?_ ?_ <;> rfl)
    · exact (by refine GO.to (md_X9_into N) (kl := [(121, fun vs st σ => kS0 st (kI 4 vs (fun x4 => KO121 x4 σ))), (87, fun vs st σ => kS0 st (kA 0 0 vs (kAE 3 9 vs (kI 4 vs (fun x4 => kI 5 vs (fun x5 => f_X9_into_L87 N KO121 n 9 x4 x5 σ))) (kAE 3 10 vs (kI 4 vs (fun x4 => kI 5 vs (fun x5 => f_X9_into_L87 N KO121 n 10 x4 x5 σ))) (kAE 3 11 vs (kI 4 vs (fun x4 => kI 5 vs (fun x5 => f_X9_into_L87 N KO121 n 11 x4 x5 σ))) (kAE 3 12 vs (kI 4 vs (fun x4 => kI 5 vs (fun x5 => f_X9_into_L87 N KO121 n 12 x4 x5 σ))) (none)))))))]) (List.forall_mem_cons.mpr ⟨fun vs st σ => go_kS0 (go_kI (fun x4 h4 => GO.pat [(4, .int x4)] ⟨h4, trivial⟩ (hKO121 x4 σ))), List.forall_mem_cons.mpr ⟨fun vs st σ => go_kS0 (go_kA (fun h0 => go_kAE (fun h3 => go_kI (fun x4 h4 => go_kI (fun x5 h5 => GO.pat [(0, .ref 0), (3, .ref 9), (4, .int x4), (5, .int x5)] ⟨h0, h3, h4, h5, trivial⟩ (g_X9_into_L87 N KO121 hKO121 n 9 (Or.inl rfl) x4 x5 σ)))) (go_kAE (fun h3 => go_kI (fun x4 h4 => go_kI (fun x5 h5 => GO.pat [(0, .ref 0), (3, .ref 10), (4, .int x4), (5, .int x5)] ⟨h0, h3, h4, h5, trivial⟩ (g_X9_into_L87 N KO121 hKO121 n 10 (Or.inr (Or.inl rfl)) x4 x5 σ)))) (go_kAE (fun h3 => go_kI (fun x4 h4 => go_kI (fun x5 h5 => GO.pat [(0, .ref 0), (3, .ref 11), (4, .int x4), (5, .int x5)] ⟨h0, h3, h4, h5, trivial⟩ (g_X9_into_L87 N KO121 hKO121 n 11 (Or.inr (Or.inr (Or.inl rfl))) x4 x5 σ)))) (go_kAE (fun h3 => go_kI (fun x4 h4 => go_kI (fun x5 h5 => GO.pat [(0, .ref 0), (3, .ref 12), (4, .int x4), (5, .int x5)] ⟨h0, h3, h4, h5, trivial⟩ (g_X9_into_L87 N KO121 hKO121 n 12 (Or.inr (Or.inr (Or.inr rfl))) x4 x5 σ)))) (GO.none)))))), (fun _ z => absurd z List.not_mem_nil)⟩⟩) 68 ?_ ?_ <;> rfl)
    · exact (by refine GO.to (md_X9_into N) (kl := [(121, fun vs st σ => kS0 st (kI 4 vs (fun x4 => KO121 x4 σ))), (87, fun vs st σ => kS0 st (kA 0 0 vs (kAE 3 9 vs (kI 4 vs (fun x4 => kI 5 vs (fun x5 => f_X9_into_L87 N KO121 n 9 x4 x5 σ))) (kAE 3 10 vs (kI 4 vs (fun x4 => kI 5 vs (fun x5 => f_X9_into_L87 N KO121 n 10 x4 x5 σ))) (kAE 3 11 vs (kI 4 vs (fun x4 => kI 5 vs (fun x5 => f_X9_into_L87 N KO121 n 11 x4 x5 σ))) (kAE 3 12 vs (kI 4 vs (fun x4 => kI 5 vs (fun x5 => f_X9_into_L87 N KO121 n 12 x4 x5 σ))) (none)))))))]) (List.forall_mem_cons.mpr ⟨fun vs st σ => go_kS0 (go_kI (fun x4 h4 => GO.pat [(4, .int x4)] ⟨h4, trivial⟩ (hKO121 x4 σ))), List.forall_mem_cons.mpr ⟨fun vs st σ => go_kS0 (go_kA (fun h0 => go_kAE (fun h3 => go_kI (fun x4 h4 => go_kI (fun x5 h5 => GO.pat [(0, .ref 0), (3, .ref 9), (4, .int x4), (5, .int x5)] ⟨h0, h3, h4, h5, trivial⟩ (g_X9_into_L87 N KO121 hKO121 n 9 (Or.inl rfl) x4 x5 σ)))) (go_kAE (fun h3 => go_kI (fun x4 h4 => go_kI (fun x5 h5 => GO.pat [(0, .ref 0), (3, .ref 10), (4, .int x4), (5, .int x5)] ⟨h0, h3, h4, h5, trivial⟩ (g_X9_into_L87 N KO121 hKO121 n 10 (Or.inr (Or.inl rfl)) x4 x5 σ)))) (go_kAE (fun h3 => go_kI (fun x4 h4 => go_kI (fun x5 h5 => GO.pat [(0, .ref 0), (3, .ref 11), (4, .int x4), (5, .int x5)] ⟨h0, h3, h4, h5, trivial⟩ (g_X9_into_L87 N KO121 hKO121 n 11 (Or.inr (Or.inr (Or.inl rfl))) x4 x5 σ)))) (go_kAE (fun h3 => go_kI (fun x4 h4 => go_kI (fun x5 h5 => GO.pat [(0, .ref 0), (3, .ref 12), (4, .int x4), (5, .int x5)] ⟨h0, h3, h4, h5, trivial⟩ (g_X9_into_L87 N KO121 hKO121 n 12 (Or.inr (Or.inr (Or.inr rfl))) x4 x5 σ)))) (GO.none)))))), (fun _ z => absurd z List.not_mem_nil)⟩⟩) 68 ?_ ?_ <;> rfl)
    · exact (by refine GO.to (md_X9_into N) (kl := [(121, fun vs st σ => kS0 st (kI 4 vs (fun x4 => KO121 x4 σ))), (87, fun vs st σ => kS0 st (kA 0 0 vs (kAE 3 9 vs (kI 4 vs (fun x4 => kI 5 vs (fun x5 => f_X9_into_L87 N KO121 n 9 x4 x5 σ))) (kAE 3 10 vs (kI 4 vs (fun x4 => kI 5 vs (fun x5 => f_X9_into_L87 N KO121 n 10 x4 x5 σ))) (kAE 3 11 vs (kI 4 vs (fun x4 => kI 5 vs (fun x5 => f_X9_into_L87 N KO121 n 11 x4 x5 σ))) (kAE 3 12 vs (kI 4 vs (fun x4 => kI 5 vs (fun x5 => f_X9_into_L87 N KO121 n 12 x4 x5 σ))) (none)))))))]) (List.forall_mem_cons.mpr ⟨fun vs st σ => go_kS0 (go_kI (fun x4 h4 => GO.pat [(4, .int x4)] ⟨h4, trivial⟩ (hKO121 x4 σ))), List.forall_mem_cons.mpr ⟨fun vs st σ => go_kS0 (go_kA (fun h0 => go_kAE (fun h3 => go_kI (fun x4 h4 => go_kI (fun x5 h5 => GO.pat [(0, .ref 0), (3, .ref 9), (4, .int x4), (5, .int x5)] ⟨h0, h3, h4, h5, trivial⟩ (g_X9_into_L87 N KO121 hKO121 n 9 (Or.inl rfl) x4 x5 σ)))) (go_kAE (fun h3 => go_kI (fun x4 h4 => go_kI (fun x5 h5 => GO.pat [(0, .ref 0), (3, .ref 10), (4, .int x4), (5, .int x5)] ⟨h0, h3, h4, h5, trivial⟩ (g_X9_into_L87 N KO121 hKO121 n 10 (Or.inr (Or.inl rfl)) x4 x5 σ)))) (go_kAE (fun h3 => go_kI (fun x4 h4 => go_kI (fun x5 h5 => GO.pat [(0, .ref 0), (3, .ref 11), (4, .int x4), (5, .int x5)] ⟨h0, h3, h4, h5, trivial⟩ (g_X9_into_L87 N KO121 hKO121 n 11 (Or.inr (Or.inr (Or.inl rfl))) x4 x5 σ)))) (go_kAE (fun h3 => go_kI (fun x4 h4 => go_kI (fun x5 h5 => GO.pat [(0, .ref 0), (3, .ref 12), (4, .int x4), (5, .int x5)] ⟨h0, h3, h4, h5, trivial⟩ (g_X9_into_L87 N KO121 hKO121 n 12 (Or.inr (Or.inr (Or.inr rfl))) x4 x5 σ)))) (GO.none)))))), (fun _ z => absurd z List.not_mem_nil)⟩⟩) 68 ?_ ?_ <;> rfl)
set_option maxRecDepth 200000 in
theorem g_X9_into_J121 (N : Nat) (x4 : Int32) (σ : Wd) : GO cX9_into RX9 6 17 sc0 rI nJ0 nV0 (f_X9_into_J121 N x4 σ) 121 (mkp 0 6 [(4, .int x4)]) [] σ := by
  exact (by refine GO.to (md_X9_into N) (kl := []) ((fun _ z => absurd z List.not_mem_nil)) 68 ?_ ?_ <;> rfl)
set_option maxRecDepth 200000 in
theorem C_X9_into (N : Nat) : CTI 17 yX9_into cX9_into 6 (some .int) (a_X9_into N) := by
  refine CTI.of (own := RX9) (by decide) rfl (fun as σ r h => ?_)
  unfold a_X9_into at h
  rcases kSE_s h with ⟨r0, rfl, h0⟩ | hn
  ·
    obtain ⟨b1, r1, rfl, h1⟩ := kSI_s h0
    obtain ⟨b2, r2, rfl, h2⟩ := kSI_s h1
    obtain ⟨rfl, h9⟩ := kS0_s h2
    exact ⟨Nat.le_of_ble_eq_true rfl, by refine GO.to (md_X9_into N) (kl := [(87, fun vs st σ => kS0 st (kA 0 0 vs (kAE 3 9 vs (kI 4 vs (fun x4 => kI 5 vs (fun x5 => f_X9_into_L87 N (f_X9_into_J121 N) N 9 x4 x5 σ))) (kAE 3 10 vs (kI 4 vs (fun x4 => kI 5 vs (fun x5 => f_X9_into_L87 N (f_X9_into_J121 N) N 10 x4 x5 σ))) (kAE 3 11 vs (kI 4 vs (fun x4 => kI 5 vs (fun x5 => f_X9_into_L87 N (f_X9_into_J121 N) N 11 x4 x5 σ))) (kAE 3 12 vs (kI 4 vs (fun x4 => kI 5 vs (fun x5 => f_X9_into_L87 N (f_X9_into_J121 N) N 12 x4 x5 σ))) (none)))))))]) (List.forall_mem_cons.mpr ⟨fun vs st σ => go_kS0 (go_kA (fun h0 => go_kAE (fun h3 => go_kI (fun x4 h4 => go_kI (fun x5 h5 => GO.pat [(0, .ref 0), (3, .ref 9), (4, .int x4), (5, .int x5)] ⟨h0, h3, h4, h5, trivial⟩ (g_X9_into_L87 N (f_X9_into_J121 N) (g_X9_into_J121 N) N 9 (Or.inl rfl) x4 x5 σ)))) (go_kAE (fun h3 => go_kI (fun x4 h4 => go_kI (fun x5 h5 => GO.pat [(0, .ref 0), (3, .ref 10), (4, .int x4), (5, .int x5)] ⟨h0, h3, h4, h5, trivial⟩ (g_X9_into_L87 N (f_X9_into_J121 N) (g_X9_into_J121 N) N 10 (Or.inr (Or.inl rfl)) x4 x5 σ)))) (go_kAE (fun h3 => go_kI (fun x4 h4 => go_kI (fun x5 h5 => GO.pat [(0, .ref 0), (3, .ref 11), (4, .int x4), (5, .int x5)] ⟨h0, h3, h4, h5, trivial⟩ (g_X9_into_L87 N (f_X9_into_J121 N) (g_X9_into_J121 N) N 11 (Or.inr (Or.inr (Or.inl rfl))) x4 x5 σ)))) (go_kAE (fun h3 => go_kI (fun x4 h4 => go_kI (fun x5 h5 => GO.pat [(0, .ref 0), (3, .ref 12), (4, .int x4), (5, .int x5)] ⟨h0, h3, h4, h5, trivial⟩ (g_X9_into_L87 N (f_X9_into_J121 N) (g_X9_into_J121 N) N 12 (Or.inr (Or.inr (Or.inr rfl))) x4 x5 σ)))) (GO.none)))))), (fun _ z => absurd z List.not_mem_nil)⟩) 68 ?_ ?_ <;> rfl⟩
  cases hn
def T_X9_choose : List (Nat × Ent) := [(0, .iload_n 1, 1, []), (1, .iload_n 2, 2, []), (2, .iload_n 3, 3, []), (3, .invokestatic 215, 6, []), (6, .ifCond .eq 21, 9, [27]), (9, .iload 4, 11, []), (11, .ifCond .lt 16, 14, [27]), (14, .iload 4, 16, []), (16, .iconst 2, 17, []), (17, .if_icmp .le 12, 20, [29]), (20, .iload 4, 22, []), (22, .bipush 10, 24, []), (24, .if_icmp .ge 5, 27, [29]), (27, .iconst (-1), 28, []), (28, .ireturn, 29, []), (29, .aload_n 0, 30, []), (30, .getfield 56, 33, []), (33, .aload_n 0, 34, []), (34, .getfield 35, 37, []), (37, .aload_n 0, 38, []), (38, .getfield 42, 41, []), (41, .iload_n 1, 42, []), (42, .iload_n 2, 43, []), (43, .iload_n 3, 44, []), (44, .invokevirtual 219, 47, []), (47, .iload 4, 49, []), (49, .iconst 2, 50, []), (50, .if_icmp .ne 11, 53, [61]), (53, .aload_n 0, 54, []), (54, .getfield 56, 57, []), (57, .getfield 223, 60, []), (60, .ireturn, 61, []), (61, .aload_n 0, 62, []), (62, .getfield 56, 65, []), (65, .getfield 223, 68, []), (68, .ifCond .ne 6, 71, [74]), (71, .bipush (-2), 73, []), (73, .ireturn, 74, []), (74, .iload 4, 76, []), (76, .ifCond .ne 11, 79, [87]), (79, .aload_n 0, 80, []), (80, .getfield 56, 83, []), (83, .getfield 226, 86, []), (86, .ireturn, 87, []), (87, .iload 4, 89, []), (89, .iconst 1, 90, []), (90, .if_icmp .ne 13, 93, [103]), (93, .aload_n 0, 94, []), (94, .getfield 56, 97, []), (97, .getfield 229, 100, []), (100, .goto 18, 103, [118]), (103, .aload_n 0, 104, []), (104, .getfield 56, 107, []), (107, .getfield 232, 110, []), (110, .iload 4, 112, []), (112, .bipush 10, 114, []), (114, .isub, 115, []), (115, .invokestatic 125, 118, []), (118, .ireturn, 119, [])]
set_option maxRecDepth 200000 in
theorem tc_X9_choose : T_X9_choose.all (chk cX9_choose) = true := by decide +kernel
def f_X9_choose_J29 (N : Nat) (x1 : Int32) (x2 : Int32) (x3 : Int32) (x4 : Int32) (σ : Wd) : Option (Int32 × Wd) :=
  (f_X4_run N x1 x2 x3 σ).bind fun σ2 => if x4 = 2 then (some (σ2.1 7 1, σ2)) else (if (σ2.1 7 1) = 0 then (some ((-2), σ2)) else (if x4 = 0 then (some (σ2.1 7 2, σ2)) else (if x4 = 1 then (some (σ2.1 7 3, σ2)) else ((f_X0_figureOf N (σ2.2 7 4) (x4 - 10) σ2).bind fun p3 => some (p3.1, p3.2)))))
def f_X9_choose (N : Nat) (a1 : Int32) (a2 : Int32) (a3 : Int32) (a4 : Int32) (σ : Wd) : Option (Int32 × Wd) :=
  (f_X9_canChoose N a1 a2 a3 σ).bind fun p1 => if p1.1 = 0 then (some ((-1), p1.2)) else (if a4 < 0 then (some ((-1), p1.2)) else (if a4 ≤ 2 then (f_X9_choose_J29 N a1 a2 a3 a4 p1.2) else (if 10 ≤ a4 then (f_X9_choose_J29 N a1 a2 a3 a4 p1.2) else (some ((-1), p1.2)))))
def a_X9_choose (N : Nat) : List Value → Wd → Option (Int32 × Wd) := fun as σ => kSE 0 as (fun r0 => kSI r0 (fun b1 r1 => kSI r1 (fun b2 r2 => kSI r2 (fun b3 r3 => kSI r3 (fun b4 r4 => kS0 r4 (f_X9_choose N b1 b2 b3 b4 σ)))))) (none)
set_option maxRecDepth 200000 in
theorem k_X9_215 : calchk RX9 215 3 0 yX9_canChoose cX9_canChoose 3 (some .boolean) = true := by decide +kernel
set_option maxRecDepth 200000 in
theorem k_X9_219 : calchk RX9 219 6 4 yX4_run cX4_run 6 none = true := by decide +kernel
def ct_X9_choose (N : Nat) : List (Nat × Cal) := [(215, 3, 0, .inl (a_X9_canChoose N)), (219, 6, 4, .inr (.inr (a_X4_run N))), (125, 2, 0, .inl (a_X0_figureOf N))]
set_option maxRecDepth 200000 in
theorem md_X9_choose (N : Nat) : MDOK T_X9_choose ft_X9 lt_X9 (ct_X9_choose N) cX9_choose RX9 26 := ⟨tc_X9_choose, fc_X9, lc_X9, List.forall_mem_cons.mpr ⟨Or.inl ⟨yX9_canChoose, cX9_canChoose, 3, (some .boolean), 2, k_X9_215, Nat.le_of_ble_eq_true rfl, C_X9_canChoose N⟩, List.forall_mem_cons.mpr ⟨Or.inl ⟨yX4_run, cX4_run, 6, none, 25, k_X9_219, Nat.le_of_ble_eq_true rfl, C_X4_run N⟩, List.forall_mem_cons.mpr ⟨Or.inl ⟨yX0_figureOf, cX0_figureOf, 3, (some .int), 3, k_X9_125, Nat.le_of_ble_eq_true rfl, C_X0_figureOf N⟩, (fun _ z => absurd z List.not_mem_nil)⟩⟩⟩⟩
set_option maxRecDepth 200000 in
theorem g_X9_choose_J29 (N : Nat) (x1 : Int32) (x2 : Int32) (x3 : Int32) (x4 : Int32) (σ : Wd) : GO cX9_choose RX9 5 26 sc0 rI nJ0 nV0 (f_X9_choose_J29 N x1 x2 x3 x4 σ) 29 (mkp 0 5 [(0, .ref 0), (1, .int x1), (2, .int x2), (3, .int x3), (4, .int x4)]) [] σ := by
  exact (by refine GO.to (md_X9_choose N) (kl := []) ((fun _ z => absurd z List.not_mem_nil)) 64 ?_ ?_ <;> rfl)
set_option maxRecDepth 200000 in
theorem C_X9_choose (N : Nat) : CTI 26 yX9_choose cX9_choose 5 (some .int) (a_X9_choose N) := by
  refine CTI.of (own := RX9) (by decide) rfl (fun as σ r h => ?_)
  unfold a_X9_choose at h
  rcases kSE_s h with ⟨r0, rfl, h0⟩ | hn
  ·
    obtain ⟨b1, r1, rfl, h1⟩ := kSI_s h0
    obtain ⟨b2, r2, rfl, h2⟩ := kSI_s h1
    obtain ⟨b3, r3, rfl, h3⟩ := kSI_s h2
    obtain ⟨b4, r4, rfl, h4⟩ := kSI_s h3
    obtain ⟨rfl, h9⟩ := kS0_s h4
    exact ⟨Nat.le_of_ble_eq_true rfl, by refine GO.to (md_X9_choose N) (kl := [(29, fun vs st σ => kS0 st (kA 0 0 vs (kI 1 vs (fun x1 => kI 2 vs (fun x2 => kI 3 vs (fun x3 => kI 4 vs (fun x4 => f_X9_choose_J29 N x1 x2 x3 x4 σ)))))))]) (List.forall_mem_cons.mpr ⟨fun vs st σ => go_kS0 (go_kA (fun h0 => go_kI (fun x1 h1 => go_kI (fun x2 h2 => go_kI (fun x3 h3 => go_kI (fun x4 h4 => GO.pat [(0, .ref 0), (1, .int x1), (2, .int x2), (3, .int x3), (4, .int x4)] ⟨h0, h1, h2, h3, h4, trivial⟩ (g_X9_choose_J29 N x1 x2 x3 x4 σ))))))), (fun _ z => absurd z List.not_mem_nil)⟩) 64 ?_ ?_ <;> rfl⟩
  cases hn
def T_X9_chosen : List (Nat × Ent) := [(0, .iload_n 1, 1, []), (1, .iload_n 2, 2, []), (2, .iload_n 3, 3, []), (3, .invokestatic 215, 6, []), (6, .ifCond .ne 5, 9, [11]), (9, .iconst (-1), 10, []), (10, .ireturn, 11, []), (11, .aload_n 0, 12, []), (12, .getfield 12, 15, []), (15, .invokevirtual 98, 18, []), (18, .istore 4, 20, []), (20, .iload 4, 22, []), (22, .ifCond .ne 6, 25, [28]), (25, .bipush (-100), 27, []), (27, .ireturn, 28, []), (28, .aload_n 0, 29, []), (29, .getfield 56, 32, []), (32, .aload_n 0, 33, []), (33, .getfield 35, 36, []), (36, .aload_n 0, 37, []), (37, .getfield 42, 40, []), (40, .iload_n 1, 41, []), (41, .iload_n 2, 42, []), (42, .iload_n 3, 43, []), (43, .invokevirtual 219, 46, []), (46, .aload_n 0, 47, []), (47, .getfield 56, 50, []), (50, .getfield 223, 53, []), (53, .ifCond .ne 8, 56, [61]), (56, .bipush (-2), 58, []), (58, .goto 19, 61, [77]), (61, .aload_n 0, 62, []), (62, .getfield 21, 65, []), (65, .iload 4, 67, []), (67, .aload_n 0, 68, []), (68, .getfield 56, 71, []), (71, .getfield 232, 74, []), (74, .invokevirtual 94, 77, []), (77, .ireturn, 78, [])]
set_option maxRecDepth 200000 in
theorem tc_X9_chosen : T_X9_chosen.all (chk cX9_chosen) = true := by decide +kernel
def f_X9_chosen (N : Nat) (a1 : Int32) (a2 : Int32) (a3 : Int32) (σ : Wd) : Option (Int32 × Wd) :=
  (f_X9_canChoose N a1 a2 a3 σ).bind fun p1 => if p1.1 = 0 then (some ((-1), p1.2)) else ((f_X7_takeName N p1.2).bind fun p2 => if p2.1 = 0 then (some ((-100), p2.2)) else ((f_X4_run N a1 a2 a3 p2.2).bind fun σ3 => if (σ3.1 7 1) = 0 then (some ((-2), σ3)) else ((f_X3_tell N p2.1 (σ3.2 7 4) σ3).bind fun p4 => some (p4.1, p4.2))))
def a_X9_chosen (N : Nat) : List Value → Wd → Option (Int32 × Wd) := fun as σ => kSE 0 as (fun r0 => kSI r0 (fun b1 r1 => kSI r1 (fun b2 r2 => kSI r2 (fun b3 r3 => kS0 r3 (f_X9_chosen N b1 b2 b3 σ))))) (none)
def ct_X9_chosen (N : Nat) : List (Nat × Cal) := [(215, 3, 0, .inl (a_X9_canChoose N)), (98, 1, 7, .inl (a_X7_takeName N)), (219, 6, 4, .inr (.inr (a_X4_run N))), (94, 3, 3, .inl (a_X3_tell N))]
set_option maxRecDepth 200000 in
theorem md_X9_chosen (N : Nat) : MDOK T_X9_chosen ft_X9 lt_X9 (ct_X9_chosen N) cX9_chosen RX9 26 := ⟨tc_X9_chosen, fc_X9, lc_X9, List.forall_mem_cons.mpr ⟨Or.inl ⟨yX9_canChoose, cX9_canChoose, 3, (some .boolean), 2, k_X9_215, Nat.le_of_ble_eq_true rfl, C_X9_canChoose N⟩, List.forall_mem_cons.mpr ⟨Or.inl ⟨yX7_takeName, cX7_takeName, 3, (some .int), 3, k_X9_98, Nat.le_of_ble_eq_true rfl, C_X7_takeName N⟩, List.forall_mem_cons.mpr ⟨Or.inl ⟨yX4_run, cX4_run, 6, none, 25, k_X9_219, Nat.le_of_ble_eq_true rfl, C_X4_run N⟩, List.forall_mem_cons.mpr ⟨Or.inl ⟨yX3_tell, cX3_tell, 5, (some .int), 2, k_X9_94, Nat.le_of_ble_eq_true rfl, C_X3_tell N⟩, (fun _ z => absurd z List.not_mem_nil)⟩⟩⟩⟩⟩
set_option maxRecDepth 200000 in
theorem C_X9_chosen (N : Nat) : CTI 26 yX9_chosen cX9_chosen 5 (some .int) (a_X9_chosen N) := by
  refine CTI.of (own := RX9) (by decide) rfl (fun as σ r h => ?_)
  unfold a_X9_chosen at h
  rcases kSE_s h with ⟨r0, rfl, h0⟩ | hn
  ·
    obtain ⟨b1, r1, rfl, h1⟩ := kSI_s h0
    obtain ⟨b2, r2, rfl, h2⟩ := kSI_s h1
    obtain ⟨b3, r3, rfl, h3⟩ := kSI_s h2
    obtain ⟨rfl, h9⟩ := kS0_s h3
    exact ⟨Nat.le_of_ble_eq_true rfl, by refine GO.to (md_X9_chosen N) (kl := []) ((fun _ z => absurd z List.not_mem_nil)) 44 ?_ ?_ <;> rfl⟩
  cases hn
