def ft_X10 : List (Nat × FTE) := [(11, 9, 0, 3), (15, 9, 1, 3), (18, 9, 2, 3), (21, 9, 3, 3), (24, 9, 5, 3), (27, 9, 6, 3), (30, 9, 7, 3), (33, 9, 12, 3), (36, 9, 13, 3), (39, 9, 15, 3), (42, 9, 16, 3), (45, 9, 17, 3), (48, 9, 18, 3), (51, 9, 19, 3), (54, 9, 20, 3), (57, 9, 21, 3), (60, 9, 22, 3), (63, 9, 23, 3), (66, 9, 24, 3), (69, 9, 25, 3), (72, 9, 26, 3), (75, 9, 33, 3), (78, 9, 34, 3), (81, 9, 41, 3), (85, 9, 42, 3), (88, 9, 43, 3), (91, 9, 44, 3), (94, 9, 45, 3), (97, 9, 46, 3), (100, 9, 4, 0), (116, 9, 8, 0), (119, 9, 11, 0), (122, 9, 9, 0), (133, 9, 10, 0), (170, 9, 14, 0), (192, 9, 27, 0), (236, 9, 28, 0), (284, 9, 32, 0), (287, 9, 29, 0), (290, 9, 30, 0), (293, 9, 31, 0), (301, 9, 38, 0), (304, 9, 35, 0), (307, 9, 36, 0), (310, 9, 37, 0), (332, 9, 39, 0), (335, 9, 40, 0)]
def lt_X10 : List (Nat × Int64) := [(112, 32), (114, 126), (129, 97), (131, 122), (140, 6), (180, 11), (182, 3), (184, 9), (190, 99), (255, -1), (299, 999), (321, 15), (323, 2), (338, 12), (343, -9223372036854775808)]
theorem fc_X10 : ft_X10.all (fun e => fldchk RX10 e && shchk e) = true := by decide +kernel
theorem lc_X10 : lt_X10.all (ltchk RX10) = true := by decide +kernel
def T_X10_in : List (Nat × Ent) := [(0, .lload_n 0, 1, []), (1, .lload_n 2, 2, []), (2, .lcmp, 3, []), (3, .ifCond .lt 14, 6, [17]), (6, .lload_n 0, 7, []), (7, .lload 4, 9, []), (9, .lcmp, 10, []), (10, .ifCond .gt 7, 13, [17]), (13, .iconst 1, 14, []), (14, .goto 4, 17, [18]), (17, .iconst 0, 18, []), (18, .ireturn, 19, [])]
set_option maxRecDepth 200000 in
theorem tc_X10_in : T_X10_in.all (chk cX10_in) = true := by decide +kernel
def f_X10_in (N : Nat) (a0 : Int64) (a2 : Int64) (a4 : Int64) (σ : Wd) : Option (Int32 × Wd) :=
  if (lg_cmp a0 a2) < 0 then (some (0, σ)) else (if 0 < (lg_cmp a0 a4) then (some (0, σ)) else (some (1, σ)))
def a_X10_in (N : Nat) : List Value → Wd → Option (Int32 × Wd) := fun as σ => kSJ as (fun b0 r0 => kSJ r0 (fun b1 r1 => kSJ r1 (fun b2 r2 => kS0 r2 (f_X10_in N b0 b1 b2 σ))))
def ct_X10_in (N : Nat) : List (Nat × Cal) := []
set_option maxRecDepth 200000 in
theorem md_X10_in (N : Nat) : MDOK T_X10_in ft_X10 lt_X10 (ct_X10_in N) cX10_in RX10 1 := ⟨tc_X10_in, fc_X10, lc_X10, (fun _ z => absurd z List.not_mem_nil)⟩
set_option maxRecDepth 200000 in
theorem C_X10_in (N : Nat) : CTI 1 yX10_in cX10_in 6 (some .boolean) (a_X10_in N) := by
  refine CTZ.of (own := RX10) (by decide) rfl (fun as σ r h => ?_)
  unfold a_X10_in at h
  obtain ⟨b0, r0, rfl, h0⟩ := kSJ_s h
  obtain ⟨b1, r1, rfl, h1⟩ := kSJ_s h0
  obtain ⟨b2, r2, rfl, h2⟩ := kSJ_s h1
  obtain ⟨rfl, h9⟩ := kS0_s h2
  exact ⟨Nat.le_of_ble_eq_true rfl, by refine GO.to (md_X10_in N) (kl := []) ((fun _ z => absurd z List.not_mem_nil)) 17 ?_ ?_ <;> rfl⟩
def T_X10_has : List (Nat × Ent) := [(0, .iload_n 0, 1, []), (1, .iload_n 1, 2, []), (2, .ishr, 3, []), (3, .iconst 1, 4, []), (4, .iand, 5, []), (5, .iconst 1, 6, []), (6, .if_icmp .ne 7, 9, [13]), (9, .iconst 1, 10, []), (10, .goto 4, 13, [14]), (13, .iconst 0, 14, []), (14, .ireturn, 15, [])]
set_option maxRecDepth 200000 in
theorem tc_X10_has : T_X10_has.all (chk cX10_has) = true := by decide +kernel
def f_X10_has (N : Nat) (a0 : Int32) (a1 : Int32) (σ : Wd) : Option (Int32 × Wd) :=
  if ((a0 >>> (a1 &&& 31)) &&& (1 : Int32)) = 1 then (some (1, σ)) else (some (0, σ))
def a_X10_has (N : Nat) : List Value → Wd → Option (Int32 × Wd) := fun as σ => kSI as (fun b0 r0 => kSI r0 (fun b1 r1 => kS0 r1 (f_X10_has N b0 b1 σ)))
def ct_X10_has (N : Nat) : List (Nat × Cal) := []
set_option maxRecDepth 200000 in
theorem md_X10_has (N : Nat) : MDOK T_X10_has ft_X10 lt_X10 (ct_X10_has N) cX10_has RX10 1 := ⟨tc_X10_has, fc_X10, lc_X10, (fun _ z => absurd z List.not_mem_nil)⟩
set_option maxRecDepth 200000 in
theorem C_X10_has (N : Nat) : CTI 1 yX10_has cX10_has 2 (some .boolean) (a_X10_has N) := by
  refine CTZ.of (own := RX10) (by decide) rfl (fun as σ r h => ?_)
  unfold a_X10_has at h
  obtain ⟨b0, r0, rfl, h0⟩ := kSI_s h
  obtain ⟨b1, r1, rfl, h1⟩ := kSI_s h0
  obtain ⟨rfl, h9⟩ := kS0_s h1
  exact ⟨Nat.le_of_ble_eq_true rfl, by refine GO.to (md_X10_has N) (kl := []) ((fun _ z => absurd z List.not_mem_nil)) 16 ?_ ?_ <;> rfl⟩
def T_X10_widthOf : List (Nat × Ent) := [(0, .iconst 0, 1, []), (1, .istore_n 3, 2, []), (2, .iconst 0, 3, []), (3, .istore 4, 5, []), (5, .iload 4, 7, []), (7, .iload_n 2, 8, []), (8, .if_icmp .ge 21, 11, [29]), (11, .iload_n 3, 12, []), (12, .aload_n 0, 13, []), (13, .iload_n 1, 14, []), (14, .iload 4, 16, []), (16, .iadd, 17, []), (17, .iaload, 18, []), (18, .bipush 10, 20, []), (20, .irem, 21, []), (21, .iadd, 22, []), (22, .istore_n 3, 23, []), (23, .iinc 4 1, 26, []), (26, .goto (-21), 29, [5]), (29, .iload_n 3, 30, []), (30, .ireturn, 31, [])]
set_option maxRecDepth 200000 in
theorem tc_X10_widthOf : T_X10_widthOf.all (chk cX10_widthOf) = true := by decide +kernel
def f_X10_widthOf_L5 (N : Nat) (K0 K0L : Nat) (KO29 : Int32 → Wd → Option (Int32 × Wd)) : Nat → Int32 → Int32 → Int32 → Int32 → Wd → Option (Int32 × Wd)
  | 0, _, _, _, _, _ => none
  | n + 1, x1, x2, x3, x4, σ => if x2 ≤ x4 then (KO29 x3 σ) else ((xld σ K0 K0L (x1 + x4)).bind fun v1 => f_X10_widthOf_L5 N K0 K0L KO29 n x1 x2 (x3 + (v1 - v1 / 10 * 10)) (x4 + 1) σ)
def f_X10_widthOf_J29 (N : Nat) (K0 K0L : Nat) (x3 : Int32) (σ : Wd) : Option (Int32 × Wd) :=
  some (x3, σ)
def f_X10_widthOf (N : Nat) (K0 K0L : Nat) (a1 : Int32) (a2 : Int32) (σ : Wd) : Option (Int32 × Wd) :=
  f_X10_widthOf_L5 N K0 K0L (f_X10_widthOf_J29 N K0 K0L) N a1 a2 0 0 σ
def a_X10_widthOf (N : Nat) : List Value → Wd → Option (Int32 × Wd) := fun as σ => kSE 44 as (fun r0 => kSI r0 (fun b1 r1 => kSI r1 (fun b2 r2 => kS0 r2 (f_X10_widthOf N 44 96 b1 b2 σ)))) (kSE 69 as (fun r0 => kSI r0 (fun b1 r1 => kSI r1 (fun b2 r2 => kS0 r2 (f_X10_widthOf N 69 32 b1 b2 σ)))) (none))
def ct_X10_widthOf (N : Nat) : List (Nat × Cal) := []
set_option maxRecDepth 200000 in
theorem md_X10_widthOf (N : Nat) : MDOK T_X10_widthOf ft_X10 lt_X10 (ct_X10_widthOf N) cX10_widthOf RX10 1 := ⟨tc_X10_widthOf, fc_X10, lc_X10, (fun _ z => absurd z List.not_mem_nil)⟩
set_option maxRecDepth 200000 in
theorem g_X10_widthOf_L5 (N : Nat) (K0 K0L : Nat) (hK0 : (K0 = 44 ∧ K0L = 96) ∨ (K0 = 69 ∧ K0L = 32)) (KO29 : Int32 → Wd → Option (Int32 × Wd)) (hKO29 : ∀ (x3 : Int32) (σ : Wd), GO cX10_widthOf RX10 5 1 sc0 rI nJ0 nV0 (KO29 x3 σ) 29 (mkp 0 5 [(3, .int x3)]) [] σ) : ∀ (n : Nat), ∀ (x1 : Int32) (x2 : Int32) (x3 : Int32) (x4 : Int32) (σ : Wd), GO cX10_widthOf RX10 5 1 sc0 rI nJ0 nV0 (f_X10_widthOf_L5 N K0 K0L KO29 n x1 x2 x3 x4 σ) 5 (mkp 0 5 [(0, .ref K0), (1, .int x1), (2, .int x2), (3, .int x3), (4, .int x4)]) [] σ
  | 0, x1, x2, x3, x4, σ => GO.none
  | n + 1, x1, x2, x3, x4, σ => by
    rcases hK0 with ⟨rfl, rfl⟩ | ⟨rfl, rfl⟩
    · exact (by refine GO.to (md_X10_widthOf N) (kl := [(29, fun vs st σ => kS0 st (kI 3 vs (fun x3 => KO29 x3 σ))), (5, fun vs st σ => kS0 st (kA 0 44 vs (kI 1 vs (fun x1 => kI 2 vs (fun x2 => kI 3 vs (fun x3 => kI 4 vs (fun x4 => f_X10_widthOf_L5 N 44 96 KO29 n x1 x2 x3 x4 σ)))))))]) (List.forall_mem_cons.mpr ⟨fun vs st σ => go_kS0 (go_kI (fun x3 h3 => GO.pat [(3, .int x3)] ⟨h3, trivial⟩ (hKO29 x3 σ))), List.forall_mem_cons.mpr ⟨fun vs st σ => go_kS0 (go_kA (fun h0 => go_kI (fun x1 h1 => go_kI (fun x2 h2 => go_kI (fun x3 h3 => go_kI (fun x4 h4 => GO.pat [(0, .ref 44), (1, .int x1), (2, .int x2), (3, .int x3), (4, .int x4)] ⟨h0, h1, h2, h3, h4, trivial⟩ (g_X10_widthOf_L5 N 44 96 (Or.inl ⟨rfl, rfl⟩) KO29 hKO29 n x1 x2 x3 x4 σ))))))), (fun _ z => absurd z List.not_mem_nil)⟩⟩) 26 ?_ ?_ <;> rfl)
    · exact (by refine GO.to (md_X10_widthOf N) (kl := [(29, fun vs st σ => kS0 st (kI 3 vs (fun x3 => KO29 x3 σ))), (5, fun vs st σ => kS0 st (kA 0 69 vs (kI 1 vs (fun x1 => kI 2 vs (fun x2 => kI 3 vs (fun x3 => kI 4 vs (fun x4 => f_X10_widthOf_L5 N 69 32 KO29 n x1 x2 x3 x4 σ)))))))]) (List.forall_mem_cons.mpr ⟨fun vs st σ => go_kS0 (go_kI (fun x3 h3 => GO.pat [(3, .int x3)] ⟨h3, trivial⟩ (hKO29 x3 σ))), List.forall_mem_cons.mpr ⟨fun vs st σ => go_kS0 (go_kA (fun h0 => go_kI (fun x1 h1 => go_kI (fun x2 h2 => go_kI (fun x3 h3 => go_kI (fun x4 h4 => GO.pat [(0, .ref 69), (1, .int x1), (2, .int x2), (3, .int x3), (4, .int x4)] ⟨h0, h1, h2, h3, h4, trivial⟩ (g_X10_widthOf_L5 N 69 32 (Or.inr ⟨rfl, rfl⟩) KO29 hKO29 n x1 x2 x3 x4 σ))))))), (fun _ z => absurd z List.not_mem_nil)⟩⟩) 26 ?_ ?_ <;> rfl)
set_option maxRecDepth 200000 in
theorem g_X10_widthOf_J29 (N : Nat) (K0 K0L : Nat) (hK0 : (K0 = 44 ∧ K0L = 96) ∨ (K0 = 69 ∧ K0L = 32)) (x3 : Int32) (σ : Wd) : GO cX10_widthOf RX10 5 1 sc0 rI nJ0 nV0 (f_X10_widthOf_J29 N K0 K0L x3 σ) 29 (mkp 0 5 [(3, .int x3)]) [] σ := by
  rcases hK0 with ⟨rfl, rfl⟩ | ⟨rfl, rfl⟩
  · exact (by refine GO.to (md_X10_widthOf N) (kl := []) ((fun _ z => absurd z List.not_mem_nil)) 26 ?_ ?_ <;> rfl)
  · exact (by refine GO.to (md_X10_widthOf N) (kl := []) ((fun _ z => absurd z List.not_mem_nil)) 26 ?_ ?_ <;> rfl)
set_option maxRecDepth 200000 in
theorem C_X10_widthOf (N : Nat) : CTI 1 yX10_widthOf cX10_widthOf 5 (some .int) (a_X10_widthOf N) := by
  refine CTI.of (own := RX10) (by decide) rfl (fun as σ r h => ?_)
  unfold a_X10_widthOf at h
  rcases kSE_s h with ⟨r0, rfl, h0⟩ | hn
  ·
    obtain ⟨b1, r1, rfl, h1⟩ := kSI_s h0
    obtain ⟨b2, r2, rfl, h2⟩ := kSI_s h1
    obtain ⟨rfl, h9⟩ := kS0_s h2
    exact ⟨Nat.le_of_ble_eq_true rfl, by refine GO.to (md_X10_widthOf N) (kl := [(5, fun vs st σ => kS0 st (kA 0 44 vs (kI 1 vs (fun x1 => kI 2 vs (fun x2 => kI 3 vs (fun x3 => kI 4 vs (fun x4 => f_X10_widthOf_L5 N 44 96 (f_X10_widthOf_J29 N 44 96) N x1 x2 x3 x4 σ)))))))]) (List.forall_mem_cons.mpr ⟨fun vs st σ => go_kS0 (go_kA (fun h0 => go_kI (fun x1 h1 => go_kI (fun x2 h2 => go_kI (fun x3 h3 => go_kI (fun x4 h4 => GO.pat [(0, .ref 44), (1, .int x1), (2, .int x2), (3, .int x3), (4, .int x4)] ⟨h0, h1, h2, h3, h4, trivial⟩ (g_X10_widthOf_L5 N 44 96 (Or.inl ⟨rfl, rfl⟩) (f_X10_widthOf_J29 N 44 96) (g_X10_widthOf_J29 N 44 96 (Or.inl ⟨rfl, rfl⟩)) N x1 x2 x3 x4 σ))))))), (fun _ z => absurd z List.not_mem_nil)⟩) 26 ?_ ?_ <;> rfl⟩
  rcases kSE_s hn with ⟨r0, rfl, h0⟩ | hnn
  ·
    obtain ⟨b1, r1, rfl, h1⟩ := kSI_s h0
    obtain ⟨b2, r2, rfl, h2⟩ := kSI_s h1
    obtain ⟨rfl, h9⟩ := kS0_s h2
    exact ⟨Nat.le_of_ble_eq_true rfl, by refine GO.to (md_X10_widthOf N) (kl := [(5, fun vs st σ => kS0 st (kA 0 69 vs (kI 1 vs (fun x1 => kI 2 vs (fun x2 => kI 3 vs (fun x3 => kI 4 vs (fun x4 => f_X10_widthOf_L5 N 69 32 (f_X10_widthOf_J29 N 69 32) N x1 x2 x3 x4 σ)))))))]) (List.forall_mem_cons.mpr ⟨fun vs st σ => go_kS0 (go_kA (fun h0 => go_kI (fun x1 h1 => go_kI (fun x2 h2 => go_kI (fun x3 h3 => go_kI (fun x4 h4 => GO.pat [(0, .ref 69), (1, .int x1), (2, .int x2), (3, .int x3), (4, .int x4)] ⟨h0, h1, h2, h3, h4, trivial⟩ (g_X10_widthOf_L5 N 69 32 (Or.inr ⟨rfl, rfl⟩) (f_X10_widthOf_J29 N 69 32) (g_X10_widthOf_J29 N 69 32 (Or.inr ⟨rfl, rfl⟩)) N x1 x2 x3 x4 σ))))))), (fun _ z => absurd z List.not_mem_nil)⟩) 26 ?_ ?_ <;> rfl⟩
  cases hnn
def T_X10_areAlike : List (Nat × Ent) := [(0, .iload_n 2, 1, []), (1, .iload 5, 3, []), (3, .if_icmp .ne 7, 6, [10]), (6, .iconst 1, 7, []), (7, .goto 4, 10, [11]), (10, .iconst 0, 11, []), (11, .istore 6, 13, []), (13, .iconst 0, 14, []), (14, .istore 7, 16, []), (16, .iload 7, 18, []), (18, .iload_n 2, 19, []), (19, .if_icmp .ge 37, 22, [56]), (22, .iload 6, 24, []), (24, .ifCond .eq 32, 27, [56]), (27, .aload_n 0, 28, []), (28, .iload_n 1, 29, []), (29, .iload 7, 31, []), (31, .iadd, 32, []), (32, .iaload, 33, []), (33, .aload_n 3, 34, []), (34, .iload 4, 36, []), (36, .iload 7, 38, []), (38, .iadd, 39, []), (39, .iaload, 40, []), (40, .if_icmp .ne 7, 43, [47]), (43, .iconst 1, 44, []), (44, .goto 4, 47, [48]), (47, .iconst 0, 48, []), (48, .istore 6, 50, []), (50, .iinc 7 1, 53, []), (53, .goto (-37), 56, [16]), (56, .iload 6, 58, []), (58, .ireturn, 59, [])]
set_option maxRecDepth 200000 in
theorem tc_X10_areAlike : T_X10_areAlike.all (chk cX10_areAlike) = true := by decide +kernel
def f_X10_areAlike_L16 (N : Nat) (K0 K0L : Nat) (K3 K3L : Nat) (KO56 : Int32 → Wd → Option (Int32 × Wd)) : Nat → Int32 → Int32 → Int32 → Int32 → Int32 → Wd → Option (Int32 × Wd)
  | 0, _, _, _, _, _, _ => none
  | n + 1, x1, x2, x4, x6, x7, σ => if x2 ≤ x7 then (KO56 x6 σ) else (if x6 = 0 then (KO56 x6 σ) else ((xld σ K0 K0L (x1 + x7)).bind fun v1 => (xld σ K3 K3L (x4 + x7)).bind fun v2 => if v1 = v2 then (f_X10_areAlike_L16 N K0 K0L K3 K3L KO56 n x1 x2 x4 1 (x7 + 1) σ) else (f_X10_areAlike_L16 N K0 K0L K3 K3L KO56 n x1 x2 x4 0 (x7 + 1) σ)))
def f_X10_areAlike_J56 (N : Nat) (K0 K0L : Nat) (K3 K3L : Nat) (x6 : Int32) (σ : Wd) : Option (Int32 × Wd) :=
  rZ x6 σ
def f_X10_areAlike (N : Nat) (K0 K0L : Nat) (K3 K3L : Nat) (a1 : Int32) (a2 : Int32) (a4 : Int32) (a5 : Int32) (σ : Wd) : Option (Int32 × Wd) :=
  if a2 = a5 then (f_X10_areAlike_L16 N K0 K0L K3 K3L (f_X10_areAlike_J56 N K0 K0L K3 K3L) N a1 a2 a4 1 0 σ) else (f_X10_areAlike_L16 N K0 K0L K3 K3L (f_X10_areAlike_J56 N K0 K0L K3 K3L) N a1 a2 a4 0 0 σ)
def a_X10_areAlike (N : Nat) : List Value → Wd → Option (Int32 × Wd) := fun as σ => kSE 42 as (fun r0 => kSI r0 (fun b1 r1 => kSI r1 (fun b2 r2 => kSE 47 r2 (fun r3 => kSI r3 (fun b4 r4 => kSI r4 (fun b5 r5 => kS0 r5 (f_X10_areAlike N 42 48 47 4 b1 b2 b4 b5 σ)))) (none)))) (kSE 44 as (fun r0 => kSI r0 (fun b1 r1 => kSI r1 (fun b2 r2 => kSE 44 r2 (fun r3 => kSI r3 (fun b4 r4 => kSI r4 (fun b5 r5 => kS0 r5 (f_X10_areAlike N 44 96 44 96 b1 b2 b4 b5 σ)))) (kSE 69 r2 (fun r3 => kSI r3 (fun b4 r4 => kSI r4 (fun b5 r5 => kS0 r5 (f_X10_areAlike N 44 96 69 32 b1 b2 b4 b5 σ)))) (none))))) (kSE 49 as (fun r0 => kSI r0 (fun b1 r1 => kSI r1 (fun b2 r2 => kSE 44 r2 (fun r3 => kSI r3 (fun b4 r4 => kSI r4 (fun b5 r5 => kS0 r5 (f_X10_areAlike N 49 168 44 96 b1 b2 b4 b5 σ)))) (kSE 69 r2 (fun r3 => kSI r3 (fun b4 r4 => kSI r4 (fun b5 r5 => kS0 r5 (f_X10_areAlike N 49 168 69 32 b1 b2 b4 b5 σ)))) (none))))) (none)))
def ct_X10_areAlike (N : Nat) : List (Nat × Cal) := []
set_option maxRecDepth 200000 in
theorem md_X10_areAlike (N : Nat) : MDOK T_X10_areAlike ft_X10 lt_X10 (ct_X10_areAlike N) cX10_areAlike RX10 1 := ⟨tc_X10_areAlike, fc_X10, lc_X10, (fun _ z => absurd z List.not_mem_nil)⟩
set_option maxRecDepth 200000 in
theorem g_X10_areAlike_L16 (N : Nat) (K0 K0L : Nat) (hK0 : (K0 = 42 ∧ K0L = 48) ∨ (K0 = 44 ∧ K0L = 96) ∨ (K0 = 49 ∧ K0L = 168)) (K3 K3L : Nat) (hK3 : (K3 = 44 ∧ K3L = 96) ∨ (K3 = 47 ∧ K3L = 4) ∨ (K3 = 69 ∧ K3L = 32)) (KO56 : Int32 → Wd → Option (Int32 × Wd)) (hKO56 : ∀ (x6 : Int32) (σ : Wd), GO cX10_areAlike RX10 8 1 sc0 rZ nJ0 nV0 (KO56 x6 σ) 56 (mkp 0 8 [(6, .int x6)]) [] σ) : ∀ (n : Nat), ∀ (x1 : Int32) (x2 : Int32) (x4 : Int32) (x6 : Int32) (x7 : Int32) (σ : Wd), GO cX10_areAlike RX10 8 1 sc0 rZ nJ0 nV0 (f_X10_areAlike_L16 N K0 K0L K3 K3L KO56 n x1 x2 x4 x6 x7 σ) 16 (mkp 0 8 [(0, .ref K0), (1, .int x1), (2, .int x2), (3, .ref K3), (4, .int x4), (6, .int x6), (7, .int x7)]) [] σ
  | 0, x1, x2, x4, x6, x7, σ => GO.none
  | n + 1, x1, x2, x4, x6, x7, σ => by
    rcases hK0 with ⟨rfl, rfl⟩ | ⟨rfl, rfl⟩ | ⟨rfl, rfl⟩ <;> rcases hK3 with ⟨rfl, rfl⟩ | ⟨rfl, rfl⟩ | ⟨rfl, rfl⟩
    · exact (by refine GO.to (md_X10_areAlike N) (kl := [(56, fun vs st σ => kS0 st (kI 6 vs (fun x6 => KO56 x6 σ))), (16, fun vs st σ => kS0 st (kA 0 42 vs (kI 1 vs (fun x1 => kI 2 vs (fun x2 => kA 3 44 vs (kI 4 vs (fun x4 => kI 6 vs (fun x6 => kI 7 vs (fun x7 => f_X10_areAlike_L16 N 42 48 44 96 KO56 n x1 x2 x4 x6 x7 σ)))))))))]) (List.forall_mem_cons.mpr ⟨fun vs st σ => go_kS0 (go_kI (fun x6 h6 => GO.pat [(6, .int x6)] ⟨h6, trivial⟩ (hKO56 x6 σ))), List.forall_mem_cons.mpr ⟨fun vs st σ => go_kS0 (go_kA (fun h0 => go_kI (fun x1 h1 => go_kI (fun x2 h2 => go_kA (fun h3 => go_kI (fun x4 h4 => go_kI (fun x6 h6 => go_kI (fun x7 h7 => GO.pat [(0, .ref 42), (1, .int x1), (2, .int x2), (3, .ref 44), (4, .int x4), (6, .int x6), (7, .int x7)] ⟨h0, h1, h2, h3, h4, h6, h7, trivial⟩ (g_X10_areAlike_L16 N 42 48 (Or.inl ⟨rfl, rfl⟩) 44 96 (Or.inl ⟨rfl, rfl⟩) KO56 hKO56 n x1 x2 x4 x6 x7 σ))))))))), (fun _ z => absurd z List.not_mem_nil)⟩⟩) 38 ?_ ?_ <;> rfl)
    · exact (by refine GO.to (md_X10_areAlike N) (kl := [(56, fun vs st σ => kS0 st (kI 6 vs (fun x6 => KO56 x6 σ))), (16, fun vs st σ => kS0 st (kA 0 42 vs (kI 1 vs (fun x1 => kI 2 vs (fun x2 => kA 3 47 vs (kI 4 vs (fun x4 => kI 6 vs (fun x6 => kI 7 vs (fun x7 => f_X10_areAlike_L16 N 42 48 47 4 KO56 n x1 x2 x4 x6 x7 σ)))))))))]) (List.forall_mem_cons.mpr ⟨fun vs st σ => go_kS0 (go_kI (fun x6 h6 => GO.pat [(6, .int x6)] ⟨h6, trivial⟩ (hKO56 x6 σ))), List.forall_mem_cons.mpr ⟨fun vs st σ => go_kS0 (go_kA (fun h0 => go_kI (fun x1 h1 => go_kI (fun x2 h2 => go_kA (fun h3 => go_kI (fun x4 h4 => go_kI (fun x6 h6 => go_kI (fun x7 h7 => GO.pat [(0, .ref 42), (1, .int x1), (2, .int x2), (3, .ref 47), (4, .int x4), (6, .int x6), (7, .int x7)] ⟨h0, h1, h2, h3, h4, h6, h7, trivial⟩ (g_X10_areAlike_L16 N 42 48 (Or.inl ⟨rfl, rfl⟩) 47 4 (Or.inr (Or.inl ⟨rfl, rfl⟩)) KO56 hKO56 n x1 x2 x4 x6 x7 σ))))))))), (fun _ z => absurd z List.not_mem_nil)⟩⟩) 38 ?_ ?_ <;> rfl)
    · exact (by refine GO.to (md_X10_areAlike N) (kl := [(56, fun vs st σ => kS0 st (kI 6 vs (fun x6 => KO56 x6 σ))), (16, fun vs st σ => kS0 st (kA 0 42 vs (kI 1 vs (fun x1 => kI 2 vs (fun x2 => kA 3 69 vs (kI 4 vs (fun x4 => kI 6 vs (fun x6 => kI 7 vs (fun x7 => f_X10_areAlike_L16 N 42 48 69 32 KO56 n x1 x2 x4 x6 x7 σ)))))))))]) (List.forall_mem_cons.mpr ⟨fun vs st σ => go_kS0 (go_kI (fun x6 h6 => GO.pat [(6, .int x6)] ⟨h6, trivial⟩ (hKO56 x6 σ))), List.forall_mem_cons.mpr ⟨fun vs st σ => go_kS0 (go_kA (fun h0 => go_kI (fun x1 h1 => go_kI (fun x2 h2 => go_kA (fun h3 => go_kI (fun x4 h4 => go_kI (fun x6 h6 => go_kI (fun x7 h7 => GO.pat [(0, .ref 42), (1, .int x1), (2, .int x2), (3, .ref 69), (4, .int x4), (6, .int x6), (7, .int x7)] ⟨h0, h1, h2, h3, h4, h6, h7, trivial⟩ (g_X10_areAlike_L16 N 42 48 (Or.inl ⟨rfl, rfl⟩) 69 32 (Or.inr (Or.inr ⟨rfl, rfl⟩)) KO56 hKO56 n x1 x2 x4 x6 x7 σ))))))))), (fun _ z => absurd z List.not_mem_nil)⟩⟩) 38 ?_ ?_ <;> rfl)
    · exact (by refine GO.to (md_X10_areAlike N) (kl := [(56, fun vs st σ => kS0 st (kI 6 vs (fun x6 => KO56 x6 σ))), (16, fun vs st σ => kS0 st (kA 0 44 vs (kI 1 vs (fun x1 => kI 2 vs (fun x2 => kA 3 44 vs (kI 4 vs (fun x4 => kI 6 vs (fun x6 => kI 7 vs (fun x7 => f_X10_areAlike_L16 N 44 96 44 96 KO56 n x1 x2 x4 x6 x7 σ)))))))))]) (List.forall_mem_cons.mpr ⟨fun vs st σ => go_kS0 (go_kI (fun x6 h6 => GO.pat [(6, .int x6)] ⟨h6, trivial⟩ (hKO56 x6 σ))), List.forall_mem_cons.mpr ⟨fun vs st σ => go_kS0 (go_kA (fun h0 => go_kI (fun x1 h1 => go_kI (fun x2 h2 => go_kA (fun h3 => go_kI (fun x4 h4 => go_kI (fun x6 h6 => go_kI (fun x7 h7 => GO.pat [(0, .ref 44), (1, .int x1), (2, .int x2), (3, .ref 44), (4, .int x4), (6, .int x6), (7, .int x7)] ⟨h0, h1, h2, h3, h4, h6, h7, trivial⟩ (g_X10_areAlike_L16 N 44 96 (Or.inr (Or.inl ⟨rfl, rfl⟩)) 44 96 (Or.inl ⟨rfl, rfl⟩) KO56 hKO56 n x1 x2 x4 x6 x7 σ))))))))), (fun _ z => absurd z List.not_mem_nil)⟩⟩) 38 ?_ ?_ <;> rfl)
    · exact (by refine GO.to (md_X10_areAlike N) (kl := [(56, fun vs st σ => kS0 st (kI 6 vs (fun x6 => KO56 x6 σ))), (16, fun vs st σ => kS0 st (kA 0 44 vs (kI 1 vs (fun x1 => kI 2 vs (fun x2 => kA 3 47 vs (kI 4 vs (fun x4 => kI 6 vs (fun x6 => kI 7 vs (fun x7 => f_X10_areAlike_L16 N 44 96 47 4 KO56 n x1 x2 x4 x6 x7 σ)))))))))]) (List.forall_mem_cons.mpr ⟨fun vs st σ => go_kS0 (go_kI (fun x6 h6 => GO.pat [(6, .int x6)] ⟨h6, trivial⟩ (hKO56 x6 σ))), List.forall_mem_cons.mpr ⟨fun vs st σ => go_kS0 (go_kA (fun h0 => go_kI (fun x1 h1 => go_kI (fun x2 h2 => go_kA (fun h3 => go_kI (fun x4 h4 => go_kI (fun x6 h6 => go_kI (fun x7 h7 => GO.pat [(0, .ref 44), (1, .int x1), (2, .int x2), (3, .ref 47), (4, .int x4), (6, .int x6), (7, .int x7)] ⟨h0, h1, h2, h3, h4, h6, h7, trivial⟩ (g_X10_areAlike_L16 N 44 96 (Or.inr (Or.inl ⟨rfl, rfl⟩)) 47 4 (Or.inr (Or.inl ⟨rfl, rfl⟩)) KO56 hKO56 n x1 x2 x4 x6 x7 σ))))))))), (fun _ z => absurd z List.not_mem_nil)⟩⟩) 38 ?_ ?_ <;> rfl)
    · exact (by refine GO.to (md_X10_areAlike N) (kl := [(56, fun vs st σ => kS0 st (kI 6 vs (fun x6 => KO56 x6 σ))), (16, fun vs st σ => kS0 st (kA 0 44 vs (kI 1 vs (fun x1 => kI 2 vs (fun x2 => kA 3 69 vs (kI 4 vs (fun x4 => kI 6 vs (fun x6 => kI 7 vs (fun x7 => f_X10_areAlike_L16 N 44 96 69 32 KO56 n x1 x2 x4 x6 x7 σ)))))))))]) (List.forall_mem_cons.mpr ⟨fun vs st σ => go_kS0 (go_kI (fun x6 h6 => GO.pat [(6, .int x6)] ⟨h6, trivial⟩ (hKO56 x6 σ))), List.forall_mem_cons.mpr ⟨fun vs st σ => go_kS0 (go_kA (fun h0 => go_kI (fun x1 h1 => go_kI (fun x2 h2 => go_kA (fun h3 => go_kI (fun x4 h4 => go_kI (fun x6 h6 => go_kI (fun x7 h7 => GO.pat [(0, .ref 44), (1, .int x1), (2, .int x2), (3, .ref 69), (4, .int x4), (6, .int x6), (7, .int x7)] ⟨h0, h1, h2, h3, h4, h6, h7, trivial⟩ (g_X10_areAlike_L16 N 44 96 (Or.inr (Or.inl ⟨rfl, rfl⟩)) 69 32 (Or.inr (Or.inr ⟨rfl, rfl⟩)) KO56 hKO56 n x1 x2 x4 x6 x7 σ))))))))), (fun _ z => absurd z List.not_mem_nil)⟩⟩) 38 ?_ ?_ <;> rfl)
    · exact (by refine GO.to (md_X10_areAlike N) (kl := [(56, fun vs st σ => kS0 st (kI 6 vs (fun x6 => KO56 x6 σ))), (16, fun vs st σ => kS0 st (kA 0 49 vs (kI 1 vs (fun x1 => kI 2 vs (fun x2 => kA 3 44 vs (kI 4 vs (fun x4 => kI 6 vs (fun x6 => kI 7 vs (fun x7 => f_X10_areAlike_L16 N 49 168 44 96 KO56 n x1 x2 x4 x6 x7 σ)))))))))]) (List.forall_mem_cons.mpr ⟨fun vs st σ => go_kS0 (go_kI (fun x6 h6 => GO.pat [(6, .int x6)] ⟨h6, trivial⟩ (hKO56 x6 σ))), List.forall_mem_cons.mpr ⟨fun vs st σ => go_kS0 (go_kA (fun h0 => go_kI (fun x1 h1 => go_kI (fun x2 h2 => go_kA (fun h3 => go_kI (fun x4 h4 => go_kI (fun x6 h6 => go_kI (fun x7 h7 => GO.pat [(0, .ref 49), (1, .int x1), (2, .int x2), (3, .ref 44), (4, .int x4), (6, .int x6), (7, .int x7)] ⟨h0, h1, h2, h3, h4, h6, h7, trivial⟩ (g_X10_areAlike_L16 N 49 168 (Or.inr (Or.inr ⟨rfl, rfl⟩)) 44 96 (Or.inl ⟨rfl, rfl⟩) KO56 hKO56 n x1 x2 x4 x6 x7 σ))))))))), (fun _ z => absurd z List.not_mem_nil)⟩⟩) 38 ?_ ?_ <;> rfl)
    · exact (by refine GO.to (md_X10_areAlike N) (kl := [(56, fun vs st σ => kS0 st (kI 6 vs (fun x6 => KO56 x6 σ))), (16, fun vs st σ => kS0 st (kA 0 49 vs (kI 1 vs (fun x1 => kI 2 vs (fun x2 => kA 3 47 vs (kI 4 vs (fun x4 => kI 6 vs (fun x6 => kI 7 vs (fun x7 => f_X10_areAlike_L16 N 49 168 47 4 KO56 n x1 x2 x4 x6 x7 σ)))))))))]) (List.forall_mem_cons.mpr ⟨fun vs st σ => go_kS0 (go_kI (fun x6 h6 => GO.pat [(6, .int x6)] ⟨h6, trivial⟩ (hKO56 x6 σ))), List.forall_mem_cons.mpr ⟨fun vs st σ => go_kS0 (go_kA (fun h0 => go_kI (fun x1 h1 => go_kI (fun x2 h2 => go_kA (fun h3 => go_kI (fun x4 h4 => go_kI (fun x6 h6 => go_kI (fun x7 h7 => GO.pat [(0, .ref 49), (1, .int x1), (2, .int x2), (3, .ref 47), (4, .int x4), (6, .int x6), (7, .int x7)] ⟨h0, h1, h2, h3, h4, h6, h7, trivial⟩ (g_X10_areAlike_L16 N 49 168 (Or.inr (Or.inr ⟨rfl, rfl⟩)) 47 4 (Or.inr (Or.inl ⟨rfl, rfl⟩)) KO56 hKO56 n x1 x2 x4 x6 x7 σ))))))))), (fun _ z => absurd z List.not_mem_nil)⟩⟩) 38 ?_ ?_ <;> rfl)
    · exact (by refine GO.to (md_X10_areAlike N) (kl := [(56, fun vs st σ => kS0 st (kI 6 vs (fun x6 => KO56 x6 σ))), (16, fun vs st σ => kS0 st (kA 0 49 vs (kI 1 vs (fun x1 => kI 2 vs (fun x2 => kA 3 69 vs (kI 4 vs (fun x4 => kI 6 vs (fun x6 => kI 7 vs (fun x7 => f_X10_areAlike_L16 N 49 168 69 32 KO56 n x1 x2 x4 x6 x7 σ)))))))))]) (List.forall_mem_cons.mpr ⟨fun vs st σ => go_kS0 (go_kI (fun x6 h6 => GO.pat [(6, .int x6)] ⟨h6, trivial⟩ (hKO56 x6 σ))), List.forall_mem_cons.mpr ⟨fun vs st σ => go_kS0 (go_kA (fun h0 => go_kI (fun x1 h1 => go_kI (fun x2 h2 => go_kA (fun h3 => go_kI (fun x4 h4 => go_kI (fun x6 h6 => go_kI (fun x7 h7 => GO.pat [(0, .ref 49), (1, .int x1), (2, .int x2), (3, .ref 69), (4, .int x4), (6, .int x6), (7, .int x7)] ⟨h0, h1, h2, h3, h4, h6, h7, trivial⟩ (g_X10_areAlike_L16 N 49 168 (Or.inr (Or.inr ⟨rfl, rfl⟩)) 69 32 (Or.inr (Or.inr ⟨rfl, rfl⟩)) KO56 hKO56 n x1 x2 x4 x6 x7 σ))))))))), (fun _ z => absurd z List.not_mem_nil)⟩⟩) 38 ?_ ?_ <;> rfl)
set_option maxRecDepth 200000 in
theorem g_X10_areAlike_J56 (N : Nat) (K0 K0L : Nat) (hK0 : (K0 = 42 ∧ K0L = 48) ∨ (K0 = 44 ∧ K0L = 96) ∨ (K0 = 49 ∧ K0L = 168)) (K3 K3L : Nat) (hK3 : (K3 = 44 ∧ K3L = 96) ∨ (K3 = 47 ∧ K3L = 4) ∨ (K3 = 69 ∧ K3L = 32)) (x6 : Int32) (σ : Wd) : GO cX10_areAlike RX10 8 1 sc0 rZ nJ0 nV0 (f_X10_areAlike_J56 N K0 K0L K3 K3L x6 σ) 56 (mkp 0 8 [(6, .int x6)]) [] σ := by
  rcases hK0 with ⟨rfl, rfl⟩ | ⟨rfl, rfl⟩ | ⟨rfl, rfl⟩ <;> rcases hK3 with ⟨rfl, rfl⟩ | ⟨rfl, rfl⟩ | ⟨rfl, rfl⟩
  · exact (by refine GO.to (md_X10_areAlike N) (kl := []) ((fun _ z => absurd z List.not_mem_nil)) 38 ?_ ?_ <;> rfl)
  · exact (by refine GO.to (md_X10_areAlike N) (kl := []) ((fun _ z => absurd z List.not_mem_nil)) 38 ?_ ?_ <;> rfl)
  · exact (by refine GO.to (md_X10_areAlike N) (kl := []) ((fun _ z => absurd z List.not_mem_nil)) 38 ?_ ?_ <;> rfl)
  · exact (by refine GO.to (md_X10_areAlike N) (kl := []) ((fun _ z => absurd z List.not_mem_nil)) 38 ?_ ?_ <;> rfl)
  · exact (by refine GO.to (md_X10_areAlike N) (kl := []) ((fun _ z => absurd z List.not_mem_nil)) 38 ?_ ?_ <;> rfl)
  · exact (by refine GO.to (md_X10_areAlike N) (kl := []) ((fun _ z => absurd z List.not_mem_nil)) 38 ?_ ?_ <;> rfl)
  · exact (by refine GO.to (md_X10_areAlike N) (kl := []) ((fun _ z => absurd z List.not_mem_nil)) 38 ?_ ?_ <;> rfl)
  · exact (by refine GO.to (md_X10_areAlike N) (kl := []) ((fun _ z => absurd z List.not_mem_nil)) 38 ?_ ?_ <;> rfl)
  · exact (by refine GO.to (md_X10_areAlike N) (kl := []) ((fun _ z => absurd z List.not_mem_nil)) 38 ?_ ?_ <;> rfl)
set_option maxRecDepth 200000 in
theorem C_X10_areAlike (N : Nat) : CTI 1 yX10_areAlike cX10_areAlike 8 (some .boolean) (a_X10_areAlike N) := by
  refine CTZ.of (own := RX10) (by decide) rfl (fun as σ r h => ?_)
  unfold a_X10_areAlike at h
  rcases kSE_s h with ⟨r0, rfl, h0⟩ | hn
  ·
    obtain ⟨b1, r1, rfl, h1⟩ := kSI_s h0
    obtain ⟨b2, r2, rfl, h2⟩ := kSI_s h1
    rcases kSE_s h2 with ⟨r3, rfl, h3⟩ | h2n
    ·
      obtain ⟨b4, r4, rfl, h4⟩ := kSI_s h3
      obtain ⟨b5, r5, rfl, h5⟩ := kSI_s h4
      obtain ⟨rfl, h9⟩ := kS0_s h5
      exact ⟨Nat.le_of_ble_eq_true rfl, by refine GO.to (md_X10_areAlike N) (kl := [(16, fun vs st σ => kS0 st (kA 0 42 vs (kI 1 vs (fun x1 => kI 2 vs (fun x2 => kA 3 47 vs (kI 4 vs (fun x4 => kI 6 vs (fun x6 => kI 7 vs (fun x7 => f_X10_areAlike_L16 N 42 48 47 4 (f_X10_areAlike_J56 N 42 48 47 4) N x1 x2 x4 x6 x7 σ)))))))))]) (List.forall_mem_cons.mpr ⟨fun vs st σ => go_kS0 (go_kA (fun h0 => go_kI (fun x1 h1 => go_kI (fun x2 h2 => go_kA (fun h3 => go_kI (fun x4 h4 => go_kI (fun x6 h6 => go_kI (fun x7 h7 => GO.pat [(0, .ref 42), (1, .int x1), (2, .int x2), (3, .ref 47), (4, .int x4), (6, .int x6), (7, .int x7)] ⟨h0, h1, h2, h3, h4, h6, h7, trivial⟩ (g_X10_areAlike_L16 N 42 48 (Or.inl ⟨rfl, rfl⟩) 47 4 (Or.inr (Or.inl ⟨rfl, rfl⟩)) (f_X10_areAlike_J56 N 42 48 47 4) (g_X10_areAlike_J56 N 42 48 (Or.inl ⟨rfl, rfl⟩) 47 4 (Or.inr (Or.inl ⟨rfl, rfl⟩))) N x1 x2 x4 x6 x7 σ))))))))), (fun _ z => absurd z List.not_mem_nil)⟩) 38 ?_ ?_ <;> rfl⟩
    cases h2n
  rcases kSE_s hn with ⟨r0, rfl, h0⟩ | hnn
  ·
    obtain ⟨b1, r1, rfl, h1⟩ := kSI_s h0
    obtain ⟨b2, r2, rfl, h2⟩ := kSI_s h1
    rcases kSE_s h2 with ⟨r3, rfl, h3⟩ | h2n
    ·
      obtain ⟨b4, r4, rfl, h4⟩ := kSI_s h3
      obtain ⟨b5, r5, rfl, h5⟩ := kSI_s h4
      obtain ⟨rfl, h9⟩ := kS0_s h5
      exact ⟨Nat.le_of_ble_eq_true rfl, by refine GO.to (md_X10_areAlike N) (kl := [(16, fun vs st σ => kS0 st (kA 0 44 vs (kI 1 vs (fun x1 => kI 2 vs (fun x2 => kA 3 44 vs (kI 4 vs (fun x4 => kI 6 vs (fun x6 => kI 7 vs (fun x7 => f_X10_areAlike_L16 N 44 96 44 96 (f_X10_areAlike_J56 N 44 96 44 96) N x1 x2 x4 x6 x7 σ)))))))))]) (List.forall_mem_cons.mpr ⟨fun vs st σ => go_kS0 (go_kA (fun h0 => go_kI (fun x1 h1 => go_kI (fun x2 h2 => go_kA (fun h3 => go_kI (fun x4 h4 => go_kI (fun x6 h6 => go_kI (fun x7 h7 => GO.pat [(0, .ref 44), (1, .int x1), (2, .int x2), (3, .ref 44), (4, .int x4), (6, .int x6), (7, .int x7)] ⟨h0, h1, h2, h3, h4, h6, h7, trivial⟩ (g_X10_areAlike_L16 N 44 96 (Or.inr (Or.inl ⟨rfl, rfl⟩)) 44 96 (Or.inl ⟨rfl, rfl⟩) (f_X10_areAlike_J56 N 44 96 44 96) (g_X10_areAlike_J56 N 44 96 (Or.inr (Or.inl ⟨rfl, rfl⟩)) 44 96 (Or.inl ⟨rfl, rfl⟩)) N x1 x2 x4 x6 x7 σ))))))))), (fun _ z => absurd z List.not_mem_nil)⟩) 38 ?_ ?_ <;> rfl⟩
    rcases kSE_s h2n with ⟨r3, rfl, h3⟩ | h2nn
    ·
      obtain ⟨b4, r4, rfl, h4⟩ := kSI_s h3
      obtain ⟨b5, r5, rfl, h5⟩ := kSI_s h4
      obtain ⟨rfl, h9⟩ := kS0_s h5
      exact ⟨Nat.le_of_ble_eq_true rfl, by refine GO.to (md_X10_areAlike N) (kl := [(16, fun vs st σ => kS0 st (kA 0 44 vs (kI 1 vs (fun x1 => kI 2 vs (fun x2 => kA 3 69 vs (kI 4 vs (fun x4 => kI 6 vs (fun x6 => kI 7 vs (fun x7 => f_X10_areAlike_L16 N 44 96 69 32 (f_X10_areAlike_J56 N 44 96 69 32) N x1 x2 x4 x6 x7 σ)))))))))]) (List.forall_mem_cons.mpr ⟨fun vs st σ => go_kS0 (go_kA (fun h0 => go_kI (fun x1 h1 => go_kI (fun x2 h2 => go_kA (fun h3 => go_kI (fun x4 h4 => go_kI (fun x6 h6 => go_kI (fun x7 h7 => GO.pat [(0, .ref 44), (1, .int x1), (2, .int x2), (3, .ref 69), (4, .int x4), (6, .int x6), (7, .int x7)] ⟨h0, h1, h2, h3, h4, h6, h7, trivial⟩ (g_X10_areAlike_L16 N 44 96 (Or.inr (Or.inl ⟨rfl, rfl⟩)) 69 32 (Or.inr (Or.inr ⟨rfl, rfl⟩)) (f_X10_areAlike_J56 N 44 96 69 32) (g_X10_areAlike_J56 N 44 96 (Or.inr (Or.inl ⟨rfl, rfl⟩)) 69 32 (Or.inr (Or.inr ⟨rfl, rfl⟩))) N x1 x2 x4 x6 x7 σ))))))))), (fun _ z => absurd z List.not_mem_nil)⟩) 38 ?_ ?_ <;> rfl⟩
    cases h2nn
  rcases kSE_s hnn with ⟨r0, rfl, h0⟩ | hnnn
  ·
    obtain ⟨b1, r1, rfl, h1⟩ := kSI_s h0
    obtain ⟨b2, r2, rfl, h2⟩ := kSI_s h1
    rcases kSE_s h2 with ⟨r3, rfl, h3⟩ | h2n
    ·
      obtain ⟨b4, r4, rfl, h4⟩ := kSI_s h3
      obtain ⟨b5, r5, rfl, h5⟩ := kSI_s h4
      obtain ⟨rfl, h9⟩ := kS0_s h5
      exact ⟨Nat.le_of_ble_eq_true rfl, by refine GO.to (md_X10_areAlike N) (kl := [(16, fun vs st σ => kS0 st (kA 0 49 vs (kI 1 vs (fun x1 => kI 2 vs (fun x2 => kA 3 44 vs (kI 4 vs (fun x4 => kI 6 vs (fun x6 => kI 7 vs (fun x7 => f_X10_areAlike_L16 N 49 168 44 96 (f_X10_areAlike_J56 N 49 168 44 96) N x1 x2 x4 x6 x7 σ)))))))))]) (List.forall_mem_cons.mpr ⟨fun vs st σ => go_kS0 (go_kA (fun h0 => go_kI (fun x1 h1 => go_kI (fun x2 h2 => go_kA (fun h3 => go_kI (fun x4 h4 => go_kI (fun x6 h6 => go_kI (fun x7 h7 => GO.pat [(0, .ref 49), (1, .int x1), (2, .int x2), (3, .ref 44), (4, .int x4), (6, .int x6), (7, .int x7)] ⟨h0, h1, h2, h3, h4, h6, h7, trivial⟩ (g_X10_areAlike_L16 N 49 168 (Or.inr (Or.inr ⟨rfl, rfl⟩)) 44 96 (Or.inl ⟨rfl, rfl⟩) (f_X10_areAlike_J56 N 49 168 44 96) (g_X10_areAlike_J56 N 49 168 (Or.inr (Or.inr ⟨rfl, rfl⟩)) 44 96 (Or.inl ⟨rfl, rfl⟩)) N x1 x2 x4 x6 x7 σ))))))))), (fun _ z => absurd z List.not_mem_nil)⟩) 38 ?_ ?_ <;> rfl⟩
    rcases kSE_s h2n with ⟨r3, rfl, h3⟩ | h2nn
    ·
      obtain ⟨b4, r4, rfl, h4⟩ := kSI_s h3
      obtain ⟨b5, r5, rfl, h5⟩ := kSI_s h4
      obtain ⟨rfl, h9⟩ := kS0_s h5
      exact ⟨Nat.le_of_ble_eq_true rfl, by refine GO.to (md_X10_areAlike N) (kl := [(16, fun vs st σ => kS0 st (kA 0 49 vs (kI 1 vs (fun x1 => kI 2 vs (fun x2 => kA 3 69 vs (kI 4 vs (fun x4 => kI 6 vs (fun x6 => kI 7 vs (fun x7 => f_X10_areAlike_L16 N 49 168 69 32 (f_X10_areAlike_J56 N 49 168 69 32) N x1 x2 x4 x6 x7 σ)))))))))]) (List.forall_mem_cons.mpr ⟨fun vs st σ => go_kS0 (go_kA (fun h0 => go_kI (fun x1 h1 => go_kI (fun x2 h2 => go_kA (fun h3 => go_kI (fun x4 h4 => go_kI (fun x6 h6 => go_kI (fun x7 h7 => GO.pat [(0, .ref 49), (1, .int x1), (2, .int x2), (3, .ref 69), (4, .int x4), (6, .int x6), (7, .int x7)] ⟨h0, h1, h2, h3, h4, h6, h7, trivial⟩ (g_X10_areAlike_L16 N 49 168 (Or.inr (Or.inr ⟨rfl, rfl⟩)) 69 32 (Or.inr (Or.inr ⟨rfl, rfl⟩)) (f_X10_areAlike_J56 N 49 168 69 32) (g_X10_areAlike_J56 N 49 168 (Or.inr (Or.inr ⟨rfl, rfl⟩)) 69 32 (Or.inr (Or.inr ⟨rfl, rfl⟩))) N x1 x2 x4 x6 x7 σ))))))))), (fun _ z => absurd z List.not_mem_nil)⟩) 38 ?_ ?_ <;> rfl⟩
    cases h2nn
  cases hnnn
def T_X10_here : List (Nat × Ent) := [(0, .aload_n 0, 1, []), (1, .getfield 119, 4, []), (4, .aload_n 0, 5, []), (5, .getfield 116, 8, []), (8, .if_icmp .ge 15, 11, [23]), (11, .aload_n 0, 12, []), (12, .getfield 24, 15, []), (15, .aload_n 0, 16, []), (16, .getfield 119, 19, []), (19, .iaload, 20, []), (20, .goto 4, 23, [24]), (23, .iconst (-1), 24, []), (24, .ireturn, 25, [])]
set_option maxRecDepth 200000 in
theorem tc_X10_here : T_X10_here.all (chk cX10_here) = true := by decide +kernel
def f_X10_here (N : Nat) (σ : Wd) : Option (Int32 × Wd) :=
  if (σ.1 41 8) ≤ (σ.1 41 11) then (some ((-1), σ)) else ((xld σ 46 40 (σ.1 41 11)).bind fun v1 => some (v1, σ))
def a_X10_here (N : Nat) : List Value → Wd → Option (Int32 × Wd) := fun as σ => kSE 41 as (fun r0 => kS0 r0 (f_X10_here N σ)) (none)
def ct_X10_here (N : Nat) : List (Nat × Cal) := []
set_option maxRecDepth 200000 in
theorem md_X10_here (N : Nat) : MDOK T_X10_here ft_X10 lt_X10 (ct_X10_here N) cX10_here RX10 1 := ⟨tc_X10_here, fc_X10, lc_X10, (fun _ z => absurd z List.not_mem_nil)⟩
set_option maxRecDepth 200000 in
theorem C_X10_here (N : Nat) : CTI 1 yX10_here cX10_here 1 (some .int) (a_X10_here N) := by
  refine CTI.of (own := RX10) (by decide) rfl (fun as σ r h => ?_)
  unfold a_X10_here at h
  rcases kSE_s h with ⟨r0, rfl, h0⟩ | hn
  ·
    obtain ⟨rfl, h9⟩ := kS0_s h0
    exact ⟨Nat.le_of_ble_eq_true rfl, by refine GO.to (md_X10_here N) (kl := []) ((fun _ z => absurd z List.not_mem_nil)) 18 ?_ ?_ <;> rfl⟩
  cases hn
def T_X10_kindOf : List (Nat × Ent) := [(0, .iload_n 0, 1, []), (1, .bipush 114, 3, []), (3, .if_icmp .ne 7, 6, [10]), (6, .iconst 0, 7, []), (7, .goto 34, 10, [41]), (10, .iload_n 0, 11, []), (11, .bipush 115, 13, []), (13, .if_icmp .ne 7, 16, [20]), (16, .iconst 1, 17, []), (17, .goto 24, 20, [41]), (20, .iload_n 0, 21, []), (21, .bipush 99, 23, []), (23, .if_icmp .ne 7, 26, [30]), (26, .iconst 2, 27, []), (27, .goto 14, 30, [41]), (30, .iload_n 0, 31, []), (31, .bipush 108, 33, []), (33, .if_icmp .ne 7, 36, [40]), (36, .iconst 3, 37, []), (37, .goto 4, 40, [41]), (40, .iconst (-1), 41, []), (41, .ireturn, 42, [])]
set_option maxRecDepth 200000 in
theorem tc_X10_kindOf : T_X10_kindOf.all (chk cX10_kindOf) = true := by decide +kernel
def f_X10_kindOf (N : Nat) (a0 : Int32) (σ : Wd) : Option (Int32 × Wd) :=
  if a0 = 114 then (some (0, σ)) else (if a0 = 115 then (some (1, σ)) else (if a0 = 99 then (some (2, σ)) else (if a0 = 108 then (some (3, σ)) else (some ((-1), σ)))))
def a_X10_kindOf (N : Nat) : List Value → Wd → Option (Int32 × Wd) := fun as σ => kSI as (fun b0 r0 => kS0 r0 (f_X10_kindOf N b0 σ))
def ct_X10_kindOf (N : Nat) : List (Nat × Cal) := []
set_option maxRecDepth 200000 in
theorem md_X10_kindOf (N : Nat) : MDOK T_X10_kindOf ft_X10 lt_X10 (ct_X10_kindOf N) cX10_kindOf RX10 1 := ⟨tc_X10_kindOf, fc_X10, lc_X10, (fun _ z => absurd z List.not_mem_nil)⟩
set_option maxRecDepth 200000 in
theorem C_X10_kindOf (N : Nat) : CTI 1 yX10_kindOf cX10_kindOf 1 (some .int) (a_X10_kindOf N) := by
  refine CTI.of (own := RX10) (by decide) rfl (fun as σ r h => ?_)
  unfold a_X10_kindOf at h
  obtain ⟨b0, r0, rfl, h0⟩ := kSI_s h
  obtain ⟨rfl, h9⟩ := kS0_s h0
  exact ⟨Nat.le_of_ble_eq_true rfl, by refine GO.to (md_X10_kindOf N) (kl := []) ((fun _ z => absurd z List.not_mem_nil)) 27 ?_ ?_ <;> rfl⟩
def T_X10_leaves : List (Nat × Ent) := [(0, .aload_n 0, 1, []), (1, .dup, 2, []), (2, .getfield 170, 5, []), (5, .iconst 1, 6, []), (6, .isub, 7, []), (7, .putfield 170, 10, []), (10, .iload_n 1, 11, []), (11, .istore_n 2, 12, []), (12, .iload_n 2, 13, []), (13, .aload_n 0, 14, []), (14, .getfield 170, 17, []), (17, .if_icmp .ge 62, 20, [79]), (20, .aload_n 0, 21, []), (21, .getfield 36, 24, []), (24, .iload_n 2, 25, []), (25, .aload_n 0, 26, []), (26, .getfield 36, 29, []), (29, .iload_n 2, 30, []), (30, .iconst 1, 31, []), (31, .iadd, 32, []), (32, .iaload, 33, []), (33, .iastore, 34, []), (34, .iconst 0, 35, []), (35, .istore_n 3, 36, []), (36, .iload_n 3, 37, []), (37, .bipush 8, 39, []), (39, .if_icmp .ge 34, 42, [73]), (42, .aload_n 0, 43, []), (43, .getfield 33, 46, []), (46, .bipush 8, 48, []), (48, .iload_n 2, 49, []), (49, .imul, 50, []), (50, .iload_n 3, 51, []), (51, .iadd, 52, []), (52, .aload_n 0, 53, []), (53, .getfield 33, 56, []), (56, .bipush 8, 58, []), (58, .iload_n 2, 59, []), (59, .imul, 60, []), (60, .bipush 8, 62, []), (62, .iadd, 63, []), (63, .iload_n 3, 64, []), (64, .iadd, 65, []), (65, .iaload, 66, []), (66, .iastore, 67, []), (67, .iinc 3 1, 70, []), (70, .goto (-34), 73, [36]), (73, .iinc 2 1, 76, []), (76, .goto (-64), 79, [12]), (79, .return_, 80, [])]
set_option maxRecDepth 200000 in
theorem tc_X10_leaves : T_X10_leaves.all (chk cX10_leaves) = true := by decide +kernel
def f_X10_leaves_L36 (N : Nat) (KO73 : Int32 → Wd → Option Wd) : Nat → Int32 → Int32 → Wd → Option Wd
  | 0, _, _, _ => none
  | n + 1, x2, x3, σ => if 8 ≤ x3 then (KO73 x2 σ) else ((xld σ 49 168 (((8 * x2) + 8) + x3)).bind fun v4 => (xst σ 49 168 ((8 * x2) + x3) v4).bind fun σ5 => f_X10_leaves_L36 N KO73 n x2 (x3 + 1) σ5)
def f_X10_leaves_J73 (N : Nat) (KB : Int32 → Wd → Option Wd) (KO79 : Wd → Option Wd) (x2 : Int32) (σ : Wd) : Option Wd :=
  KB (x2 + 1) σ
def f_X10_leaves_L12 (N : Nat) (KO79 : Wd → Option Wd) : Nat → Int32 → Wd → Option Wd
  | 0, _, _ => none
  | n + 1, x2, σ => if (σ.1 41 14) ≤ x2 then (KO79 σ) else ((xld σ 50 21 (x2 + 1)).bind fun v2 => (xst σ 50 21 x2 v2).bind fun σ3 => f_X10_leaves_L36 N (f_X10_leaves_J73 N (f_X10_leaves_L12 N KO79 n) KO79) N x2 0 σ3)
def f_X10_leaves_J79 (N : Nat) (σ : Wd) : Option Wd :=
  some σ
def f_X10_leaves (N : Nat) (a1 : Int32) (σ : Wd) : Option Wd :=
  let σ1 : Wd := sF σ 41 14 ((σ.1 41 14) - 1)
  f_X10_leaves_L12 N (f_X10_leaves_J79 N) N a1 σ1
def a_X10_leaves (N : Nat) : List Value → Wd → Option Wd := fun as σ => kSE 41 as (fun r0 => kSI r0 (fun b1 r1 => kS0 r1 (f_X10_leaves N b1 σ))) (none)
def ct_X10_leaves (N : Nat) : List (Nat × Cal) := []
set_option maxRecDepth 200000 in
theorem md_X10_leaves (N : Nat) : MDOK T_X10_leaves ft_X10 lt_X10 (ct_X10_leaves N) cX10_leaves RX10 1 := ⟨tc_X10_leaves, fc_X10, lc_X10, (fun _ z => absurd z List.not_mem_nil)⟩
set_option maxRecDepth 200000 in
theorem g_X10_leaves_L36 (N : Nat) (KO73 : Int32 → Wd → Option Wd) (hKO73 : ∀ (x2 : Int32) (σ : Wd), GO cX10_leaves RX10 4 1 sc0 nI0 nJ0 some (KO73 x2 σ) 73 (mkp 0 4 [(0, .ref 41), (2, .int x2)]) [] σ) : ∀ (n : Nat), ∀ (x2 : Int32) (x3 : Int32) (σ : Wd), GO cX10_leaves RX10 4 1 sc0 nI0 nJ0 some (f_X10_leaves_L36 N KO73 n x2 x3 σ) 36 (mkp 0 4 [(0, .ref 41), (2, .int x2), (3, .int x3)]) [] σ
  | 0, x2, x3, σ => GO.none
  | n + 1, x2, x3, σ => by
    exact (by refine GO.to (md_X10_leaves N) (kl := [(73, fun vs st σ => kS0 st (kA 0 41 vs (kI 2 vs (fun x2 => KO73 x2 σ)))), (36, fun vs st σ => kS0 st (kA 0 41 vs (kI 2 vs (fun x2 => kI 3 vs (fun x3 => f_X10_leaves_L36 N KO73 n x2 x3 σ)))))]) (List.forall_mem_cons.mpr ⟨fun vs st σ => go_kS0 (go_kA (fun h0 => go_kI (fun x2 h2 => GO.pat [(0, .ref 41), (2, .int x2)] ⟨h0, h2, trivial⟩ (hKO73 x2 σ)))), List.forall_mem_cons.mpr ⟨fun vs st σ => go_kS0 (go_kA (fun h0 => go_kI (fun x2 h2 => go_kI (fun x3 h3 => GO.pat [(0, .ref 41), (2, .int x2), (3, .int x3)] ⟨h0, h2, h3, trivial⟩ (g_X10_leaves_L36 N KO73 hKO73 n x2 x3 σ))))), (fun _ z => absurd z List.not_mem_nil)⟩⟩) 55 ?_ ?_ <;> rfl)
set_option maxRecDepth 200000 in
theorem g_X10_leaves_J73 (N : Nat) (KB : Int32 → Wd → Option Wd) (hKB : ∀ (x2 : Int32) (σ : Wd), GO cX10_leaves RX10 4 1 sc0 nI0 nJ0 some (KB x2 σ) 12 (mkp 0 4 [(0, .ref 41), (2, .int x2)]) [] σ) (KO79 : Wd → Option Wd) (hKO79 : ∀ (σ : Wd), GO cX10_leaves RX10 4 1 sc0 nI0 nJ0 some (KO79 σ) 79 (mkp 0 4 []) [] σ) (x2 : Int32) (σ : Wd) : GO cX10_leaves RX10 4 1 sc0 nI0 nJ0 some (f_X10_leaves_J73 N KB KO79 x2 σ) 73 (mkp 0 4 [(0, .ref 41), (2, .int x2)]) [] σ := by
  exact (by refine GO.to (md_X10_leaves N) (kl := [(12, fun vs st σ => kS0 st (kA 0 41 vs (kI 2 vs (fun x2 => KB x2 σ))))]) (List.forall_mem_cons.mpr ⟨fun vs st σ => go_kS0 (go_kA (fun h0 => go_kI (fun x2 h2 => GO.pat [(0, .ref 41), (2, .int x2)] ⟨h0, h2, trivial⟩ (hKB x2 σ)))), (fun _ z => absurd z List.not_mem_nil)⟩) 55 ?_ ?_ <;> rfl)
set_option maxRecDepth 200000 in
theorem g_X10_leaves_L12 (N : Nat) (KO79 : Wd → Option Wd) (hKO79 : ∀ (σ : Wd), GO cX10_leaves RX10 4 1 sc0 nI0 nJ0 some (KO79 σ) 79 (mkp 0 4 []) [] σ) : ∀ (n : Nat), ∀ (x2 : Int32) (σ : Wd), GO cX10_leaves RX10 4 1 sc0 nI0 nJ0 some (f_X10_leaves_L12 N KO79 n x2 σ) 12 (mkp 0 4 [(0, .ref 41), (2, .int x2)]) [] σ
  | 0, x2, σ => GO.none
  | n + 1, x2, σ => by
    exact (by refine GO.to (md_X10_leaves N) (kl := [(79, fun vs st σ => kS0 st (KO79 σ)), (36, fun vs st σ => kS0 st (kA 0 41 vs (kI 2 vs (fun x2 => kI 3 vs (fun x3 => f_X10_leaves_L36 N (f_X10_leaves_J73 N (f_X10_leaves_L12 N KO79 n) KO79) N x2 x3 σ)))))]) (List.forall_mem_cons.mpr ⟨fun vs st σ => go_kS0 (GO.pat [] trivial (hKO79 σ)), List.forall_mem_cons.mpr ⟨fun vs st σ => go_kS0 (go_kA (fun h0 => go_kI (fun x2 h2 => go_kI (fun x3 h3 => GO.pat [(0, .ref 41), (2, .int x2), (3, .int x3)] ⟨h0, h2, h3, trivial⟩ (g_X10_leaves_L36 N (f_X10_leaves_J73 N (f_X10_leaves_L12 N KO79 n) KO79) (g_X10_leaves_J73 N (f_X10_leaves_L12 N KO79 n) (g_X10_leaves_L12 N KO79 hKO79 n) KO79 hKO79) N x2 x3 σ))))), (fun _ z => absurd z List.not_mem_nil)⟩⟩) 55 ?_ ?_ <;> rfl)
set_option maxRecDepth 200000 in
theorem g_X10_leaves_J79 (N : Nat) (σ : Wd) : GO cX10_leaves RX10 4 1 sc0 nI0 nJ0 some (f_X10_leaves_J79 N σ) 79 (mkp 0 4 []) [] σ := by
  exact (by refine GO.to (md_X10_leaves N) (kl := []) ((fun _ z => absurd z List.not_mem_nil)) 55 ?_ ?_ <;> rfl)
set_option maxRecDepth 200000 in
theorem C_X10_leaves (N : Nat) : CTV 1 yX10_leaves cX10_leaves 4 none (a_X10_leaves N) := by
  refine CTV.of (own := RX10) (by decide) rfl (fun as σ r h => ?_)
  unfold a_X10_leaves at h
  rcases kSE_s h with ⟨r0, rfl, h0⟩ | hn
  ·
    obtain ⟨b1, r1, rfl, h1⟩ := kSI_s h0
    obtain ⟨rfl, h9⟩ := kS0_s h1
    exact ⟨Nat.le_of_ble_eq_true rfl, by refine GO.to (md_X10_leaves N) (kl := [(12, fun vs st σ => kS0 st (kA 0 41 vs (kI 2 vs (fun x2 => f_X10_leaves_L12 N (f_X10_leaves_J79 N) N x2 σ))))]) (List.forall_mem_cons.mpr ⟨fun vs st σ => go_kS0 (go_kA (fun h0 => go_kI (fun x2 h2 => GO.pat [(0, .ref 41), (2, .int x2)] ⟨h0, h2, trivial⟩ (g_X10_leaves_L12 N (f_X10_leaves_J79 N) (g_X10_leaves_J79 N) N x2 σ)))), (fun _ z => absurd z List.not_mem_nil)⟩) 55 ?_ ?_ <;> rfl⟩
  cases hn
def T_X10_clears : List (Nat × Ent) := [(0, .aload_n 0, 1, []), (1, .bipush 27, 3, []), (3, .putfield 192, 6, []), (6, .iconst 0, 7, []), (7, .istore_n 1, 8, []), (8, .iload_n 1, 9, []), (9, .bipush 27, 11, []), (11, .if_icmp .ge 16, 14, [27]), (14, .aload_n 0, 15, []), (15, .getfield 45, 18, []), (18, .iload_n 1, 19, []), (19, .iconst (-1), 20, []), (20, .iastore, 21, []), (21, .iinc 1 1, 24, []), (24, .goto (-16), 27, [8]), (27, .return_, 28, [])]
set_option maxRecDepth 200000 in
theorem tc_X10_clears : T_X10_clears.all (chk cX10_clears) = true := by decide +kernel
def f_X10_clears_L8 (N : Nat) (KO27 : Wd → Option Wd) : Nat → Int32 → Wd → Option Wd
  | 0, _, _ => none
  | n + 1, x1, σ => if 27 ≤ x1 then (KO27 σ) else ((xst σ 53 2048 x1 (-1)).bind fun σ2 => f_X10_clears_L8 N KO27 n (x1 + 1) σ2)
def f_X10_clears_J27 (N : Nat) (σ : Wd) : Option Wd :=
  some σ
def f_X10_clears (N : Nat) (σ : Wd) : Option Wd :=
  let σ1 : Wd := sF σ 41 27 27
  f_X10_clears_L8 N (f_X10_clears_J27 N) N 0 σ1
def a_X10_clears (N : Nat) : List Value → Wd → Option Wd := fun as σ => kSE 41 as (fun r0 => kS0 r0 (f_X10_clears N σ)) (none)
def ct_X10_clears (N : Nat) : List (Nat × Cal) := []
set_option maxRecDepth 200000 in
theorem md_X10_clears (N : Nat) : MDOK T_X10_clears ft_X10 lt_X10 (ct_X10_clears N) cX10_clears RX10 1 := ⟨tc_X10_clears, fc_X10, lc_X10, (fun _ z => absurd z List.not_mem_nil)⟩
set_option maxRecDepth 200000 in
theorem g_X10_clears_L8 (N : Nat) (KO27 : Wd → Option Wd) (hKO27 : ∀ (σ : Wd), GO cX10_clears RX10 2 1 sc0 nI0 nJ0 some (KO27 σ) 27 (mkp 0 2 []) [] σ) : ∀ (n : Nat), ∀ (x1 : Int32) (σ : Wd), GO cX10_clears RX10 2 1 sc0 nI0 nJ0 some (f_X10_clears_L8 N KO27 n x1 σ) 8 (mkp 0 2 [(0, .ref 41), (1, .int x1)]) [] σ
  | 0, x1, σ => GO.none
  | n + 1, x1, σ => by
    exact (by refine GO.to (md_X10_clears N) (kl := [(27, fun vs st σ => kS0 st (KO27 σ)), (8, fun vs st σ => kS0 st (kA 0 41 vs (kI 1 vs (fun x1 => f_X10_clears_L8 N KO27 n x1 σ))))]) (List.forall_mem_cons.mpr ⟨fun vs st σ => go_kS0 (GO.pat [] trivial (hKO27 σ)), List.forall_mem_cons.mpr ⟨fun vs st σ => go_kS0 (go_kA (fun h0 => go_kI (fun x1 h1 => GO.pat [(0, .ref 41), (1, .int x1)] ⟨h0, h1, trivial⟩ (g_X10_clears_L8 N KO27 hKO27 n x1 σ)))), (fun _ z => absurd z List.not_mem_nil)⟩⟩) 21 ?_ ?_ <;> rfl)
set_option maxRecDepth 200000 in
theorem g_X10_clears_J27 (N : Nat) (σ : Wd) : GO cX10_clears RX10 2 1 sc0 nI0 nJ0 some (f_X10_clears_J27 N σ) 27 (mkp 0 2 []) [] σ := by
  exact (by refine GO.to (md_X10_clears N) (kl := []) ((fun _ z => absurd z List.not_mem_nil)) 21 ?_ ?_ <;> rfl)
set_option maxRecDepth 200000 in
theorem C_X10_clears (N : Nat) : CTV 1 yX10_clears cX10_clears 2 none (a_X10_clears N) := by
  refine CTV.of (own := RX10) (by decide) rfl (fun as σ r h => ?_)
  unfold a_X10_clears at h
  rcases kSE_s h with ⟨r0, rfl, h0⟩ | hn
  ·
    obtain ⟨rfl, h9⟩ := kS0_s h0
    exact ⟨Nat.le_of_ble_eq_true rfl, by refine GO.to (md_X10_clears N) (kl := [(8, fun vs st σ => kS0 st (kA 0 41 vs (kI 1 vs (fun x1 => f_X10_clears_L8 N (f_X10_clears_J27 N) N x1 σ))))]) (List.forall_mem_cons.mpr ⟨fun vs st σ => go_kS0 (go_kA (fun h0 => go_kI (fun x1 h1 => GO.pat [(0, .ref 41), (1, .int x1)] ⟨h0, h1, trivial⟩ (g_X10_clears_L8 N (f_X10_clears_J27 N) (g_X10_clears_J27 N) N x1 σ)))), (fun _ z => absurd z List.not_mem_nil)⟩) 21 ?_ ?_ <;> rfl⟩
  cases hn
def T_X10_gate : List (Nat × Ent) := [(0, .bipush 27, 2, []), (2, .istore 4, 4, []), (4, .iload 4, 6, []), (6, .aload_n 0, 7, []), (7, .getfield 192, 10, []), (10, .if_icmp .ge 67, 13, [77]), (13, .aload_n 0, 14, []), (14, .getfield 45, 17, []), (17, .iload 4, 19, []), (19, .iaload, 20, []), (20, .iload_n 1, 21, []), (21, .if_icmp .ne 50, 24, [71]), (24, .aload_n 0, 25, []), (25, .getfield 48, 28, []), (28, .iload 4, 30, []), (30, .iaload, 31, []), (31, .iload_n 2, 32, []), (32, .if_icmp .ne 14, 35, [46]), (35, .aload_n 0, 36, []), (36, .getfield 51, 39, []), (39, .iload 4, 41, []), (41, .iaload, 42, []), (42, .iload_n 3, 43, []), (43, .if_icmp .eq 25, 46, [68]), (46, .aload_n 0, 47, []), (47, .getfield 48, 50, []), (50, .iload 4, 52, []), (52, .iaload, 53, []), (53, .iload_n 3, 54, []), (54, .if_icmp .ne 17, 57, [71]), (57, .aload_n 0, 58, []), (58, .getfield 51, 61, []), (61, .iload 4, 63, []), (63, .iaload, 64, []), (64, .iload_n 2, 65, []), (65, .if_icmp .ne 6, 68, [71]), (68, .iload 4, 70, []), (70, .ireturn, 71, []), (71, .iinc 4 1, 74, []), (74, .goto (-70), 77, [4]), (77, .aload_n 0, 78, []), (78, .getfield 45, 81, []), (81, .aload_n 0, 82, []), (82, .getfield 192, 85, []), (85, .iload_n 1, 86, []), (86, .iastore, 87, []), (87, .aload_n 0, 88, []), (88, .getfield 48, 91, []), (91, .aload_n 0, 92, []), (92, .getfield 192, 95, []), (95, .iload_n 2, 96, []), (96, .iastore, 97, []), (97, .aload_n 0, 98, []), (98, .getfield 51, 101, []), (101, .aload_n 0, 102, []), (102, .getfield 192, 105, []), (105, .iload_n 3, 106, []), (106, .iastore, 107, []), (107, .aload_n 0, 108, []), (108, .dup, 109, []), (109, .getfield 192, 112, []), (112, .iconst 1, 113, []), (113, .iadd, 114, []), (114, .putfield 192, 117, []), (117, .aload_n 0, 118, []), (118, .getfield 192, 121, []), (121, .iconst 1, 122, []), (122, .isub, 123, []), (123, .ireturn, 124, [])]
set_option maxRecDepth 200000 in
theorem tc_X10_gate : T_X10_gate.all (chk cX10_gate) = true := by decide +kernel
def f_X10_gate_J46 (N : Nat) (KB : Int32 → Int32 → Int32 → Int32 → Wd → Option (Int32 × Wd)) (KO77 : Int32 → Int32 → Int32 → Wd → Option (Int32 × Wd)) (x1 : Int32) (x2 : Int32) (x3 : Int32) (x4 : Int32) (σ : Wd) : Option (Int32 × Wd) :=
  (xld σ 54 2048 x4).bind fun v4 => if v4 = x3 then ((xld σ 55 2048 x4).bind fun v5 => if v5 = x2 then (some (x4, σ)) else (KB x1 x2 x3 (x4 + 1) σ)) else (KB x1 x2 x3 (x4 + 1) σ)
def f_X10_gate_L4 (N : Nat) (KO77 : Int32 → Int32 → Int32 → Wd → Option (Int32 × Wd)) : Nat → Int32 → Int32 → Int32 → Int32 → Wd → Option (Int32 × Wd)
  | 0, _, _, _, _, _ => none
  | n + 1, x1, x2, x3, x4, σ => if (σ.1 41 27) ≤ x4 then (KO77 x1 x2 x3 σ) else ((xld σ 53 2048 x4).bind fun v1 => if v1 = x1 then ((xld σ 54 2048 x4).bind fun v2 => if v2 = x2 then ((xld σ 55 2048 x4).bind fun v3 => if v3 = x3 then (some (x4, σ)) else (f_X10_gate_J46 N (f_X10_gate_L4 N KO77 n) KO77 x1 x2 x3 x4 σ)) else (f_X10_gate_J46 N (f_X10_gate_L4 N KO77 n) KO77 x1 x2 x3 x4 σ)) else (f_X10_gate_L4 N KO77 n x1 x2 x3 (x4 + 1) σ))
def f_X10_gate_J77 (N : Nat) (x1 : Int32) (x2 : Int32) (x3 : Int32) (σ : Wd) : Option (Int32 × Wd) :=
  (xst σ 53 2048 (σ.1 41 27) x1).bind fun σ6 => (xst σ6 54 2048 (σ6.1 41 27) x2).bind fun σ7 => (xst σ7 55 2048 (σ7.1 41 27) x3).bind fun σ8 => let σ9 : Wd := sF σ8 41 27 ((σ8.1 41 27) + 1)
  some ((σ9.1 41 27) - 1, σ9)
def f_X10_gate (N : Nat) (a1 : Int32) (a2 : Int32) (a3 : Int32) (σ : Wd) : Option (Int32 × Wd) :=
  f_X10_gate_L4 N (f_X10_gate_J77 N) N a1 a2 a3 27 σ
def a_X10_gate (N : Nat) : List Value → Wd → Option (Int32 × Wd) := fun as σ => kSE 41 as (fun r0 => kSI r0 (fun b1 r1 => kSI r1 (fun b2 r2 => kSI r2 (fun b3 r3 => kS0 r3 (f_X10_gate N b1 b2 b3 σ))))) (none)
def ct_X10_gate (N : Nat) : List (Nat × Cal) := []
set_option maxRecDepth 200000 in
theorem md_X10_gate (N : Nat) : MDOK T_X10_gate ft_X10 lt_X10 (ct_X10_gate N) cX10_gate RX10 1 := ⟨tc_X10_gate, fc_X10, lc_X10, (fun _ z => absurd z List.not_mem_nil)⟩
set_option maxRecDepth 200000 in
theorem g_X10_gate_J46 (N : Nat) (KB : Int32 → Int32 → Int32 → Int32 → Wd → Option (Int32 × Wd)) (hKB : ∀ (x1 : Int32) (x2 : Int32) (x3 : Int32) (x4 : Int32) (σ : Wd), GO cX10_gate RX10 5 1 sc0 rI nJ0 nV0 (KB x1 x2 x3 x4 σ) 4 (mkp 0 5 [(0, .ref 41), (1, .int x1), (2, .int x2), (3, .int x3), (4, .int x4)]) [] σ) (KO77 : Int32 → Int32 → Int32 → Wd → Option (Int32 × Wd)) (hKO77 : ∀ (x1 : Int32) (x2 : Int32) (x3 : Int32) (σ : Wd), GO cX10_gate RX10 5 1 sc0 rI nJ0 nV0 (KO77 x1 x2 x3 σ) 77 (mkp 0 5 [(0, .ref 41), (1, .int x1), (2, .int x2), (3, .int x3)]) [] σ) (x1 : Int32) (x2 : Int32) (x3 : Int32) (x4 : Int32) (σ : Wd) : GO cX10_gate RX10 5 1 sc0 rI nJ0 nV0 (f_X10_gate_J46 N KB KO77 x1 x2 x3 x4 σ) 46 (mkp 0 5 [(0, .ref 41), (1, .int x1), (2, .int x2), (3, .int x3), (4, .int x4)]) [] σ := by
  exact (by refine GO.to (md_X10_gate N) (kl := [(4, fun vs st σ => kS0 st (kA 0 41 vs (kI 1 vs (fun x1 => kI 2 vs (fun x2 => kI 3 vs (fun x3 => kI 4 vs (fun x4 => KB x1 x2 x3 x4 σ)))))))]) (List.forall_mem_cons.mpr ⟨fun vs st σ => go_kS0 (go_kA (fun h0 => go_kI (fun x1 h1 => go_kI (fun x2 h2 => go_kI (fun x3 h3 => go_kI (fun x4 h4 => GO.pat [(0, .ref 41), (1, .int x1), (2, .int x2), (3, .int x3), (4, .int x4)] ⟨h0, h1, h2, h3, h4, trivial⟩ (hKB x1 x2 x3 x4 σ))))))), (fun _ z => absurd z List.not_mem_nil)⟩) 74 ?_ ?_ <;> rfl)
set_option maxRecDepth 200000 in
theorem g_X10_gate_L4 (N : Nat) (KO77 : Int32 → Int32 → Int32 → Wd → Option (Int32 × Wd)) (hKO77 : ∀ (x1 : Int32) (x2 : Int32) (x3 : Int32) (σ : Wd), GO cX10_gate RX10 5 1 sc0 rI nJ0 nV0 (KO77 x1 x2 x3 σ) 77 (mkp 0 5 [(0, .ref 41), (1, .int x1), (2, .int x2), (3, .int x3)]) [] σ) : ∀ (n : Nat), ∀ (x1 : Int32) (x2 : Int32) (x3 : Int32) (x4 : Int32) (σ : Wd), GO cX10_gate RX10 5 1 sc0 rI nJ0 nV0 (f_X10_gate_L4 N KO77 n x1 x2 x3 x4 σ) 4 (mkp 0 5 [(0, .ref 41), (1, .int x1), (2, .int x2), (3, .int x3), (4, .int x4)]) [] σ
  | 0, x1, x2, x3, x4, σ => GO.none
  | n + 1, x1, x2, x3, x4, σ => by
    exact (by refine GO.to (md_X10_gate N) (kl := [(77, fun vs st σ => kS0 st (kA 0 41 vs (kI 1 vs (fun x1 => kI 2 vs (fun x2 => kI 3 vs (fun x3 => KO77 x1 x2 x3 σ)))))), (46, fun vs st σ => kS0 st (kA 0 41 vs (kI 1 vs (fun x1 => kI 2 vs (fun x2 => kI 3 vs (fun x3 => kI 4 vs (fun x4 => f_X10_gate_J46 N (f_X10_gate_L4 N KO77 n) KO77 x1 x2 x3 x4 σ))))))), (4, fun vs st σ => kS0 st (kA 0 41 vs (kI 1 vs (fun x1 => kI 2 vs (fun x2 => kI 3 vs (fun x3 => kI 4 vs (fun x4 => f_X10_gate_L4 N KO77 n x1 x2 x3 x4 σ)))))))]) (List.forall_mem_cons.mpr ⟨fun vs st σ => go_kS0 (go_kA (fun h0 => go_kI (fun x1 h1 => go_kI (fun x2 h2 => go_kI (fun x3 h3 => GO.pat [(0, .ref 41), (1, .int x1), (2, .int x2), (3, .int x3)] ⟨h0, h1, h2, h3, trivial⟩ (hKO77 x1 x2 x3 σ)))))), List.forall_mem_cons.mpr ⟨fun vs st σ => go_kS0 (go_kA (fun h0 => go_kI (fun x1 h1 => go_kI (fun x2 h2 => go_kI (fun x3 h3 => go_kI (fun x4 h4 => GO.pat [(0, .ref 41), (1, .int x1), (2, .int x2), (3, .int x3), (4, .int x4)] ⟨h0, h1, h2, h3, h4, trivial⟩ (g_X10_gate_J46 N (f_X10_gate_L4 N KO77 n) (g_X10_gate_L4 N KO77 hKO77 n) KO77 hKO77 x1 x2 x3 x4 σ))))))), List.forall_mem_cons.mpr ⟨fun vs st σ => go_kS0 (go_kA (fun h0 => go_kI (fun x1 h1 => go_kI (fun x2 h2 => go_kI (fun x3 h3 => go_kI (fun x4 h4 => GO.pat [(0, .ref 41), (1, .int x1), (2, .int x2), (3, .int x3), (4, .int x4)] ⟨h0, h1, h2, h3, h4, trivial⟩ (g_X10_gate_L4 N KO77 hKO77 n x1 x2 x3 x4 σ))))))), (fun _ z => absurd z List.not_mem_nil)⟩⟩⟩) 74 ?_ ?_ <;> rfl)
set_option maxRecDepth 200000 in
theorem g_X10_gate_J77 (N : Nat) (x1 : Int32) (x2 : Int32) (x3 : Int32) (σ : Wd) : GO cX10_gate RX10 5 1 sc0 rI nJ0 nV0 (f_X10_gate_J77 N x1 x2 x3 σ) 77 (mkp 0 5 [(0, .ref 41), (1, .int x1), (2, .int x2), (3, .int x3)]) [] σ := by
  exact (by refine GO.to (md_X10_gate N) (kl := []) ((fun _ z => absurd z List.not_mem_nil)) 74 ?_ ?_ <;> rfl)
set_option maxRecDepth 200000 in
theorem C_X10_gate (N : Nat) : CTI 1 yX10_gate cX10_gate 5 (some .int) (a_X10_gate N) := by
  refine CTI.of (own := RX10) (by decide) rfl (fun as σ r h => ?_)
  unfold a_X10_gate at h
  rcases kSE_s h with ⟨r0, rfl, h0⟩ | hn
  ·
    obtain ⟨b1, r1, rfl, h1⟩ := kSI_s h0
    obtain ⟨b2, r2, rfl, h2⟩ := kSI_s h1
    obtain ⟨b3, r3, rfl, h3⟩ := kSI_s h2
    obtain ⟨rfl, h9⟩ := kS0_s h3
    exact ⟨Nat.le_of_ble_eq_true rfl, by refine GO.to (md_X10_gate N) (kl := [(4, fun vs st σ => kS0 st (kA 0 41 vs (kI 1 vs (fun x1 => kI 2 vs (fun x2 => kI 3 vs (fun x3 => kI 4 vs (fun x4 => f_X10_gate_L4 N (f_X10_gate_J77 N) N x1 x2 x3 x4 σ)))))))]) (List.forall_mem_cons.mpr ⟨fun vs st σ => go_kS0 (go_kA (fun h0 => go_kI (fun x1 h1 => go_kI (fun x2 h2 => go_kI (fun x3 h3 => go_kI (fun x4 h4 => GO.pat [(0, .ref 41), (1, .int x1), (2, .int x2), (3, .int x3), (4, .int x4)] ⟨h0, h1, h2, h3, h4, trivial⟩ (g_X10_gate_L4 N (f_X10_gate_J77 N) (g_X10_gate_J77 N) N x1 x2 x3 x4 σ))))))), (fun _ z => absurd z List.not_mem_nil)⟩) 74 ?_ ?_ <;> rfl⟩
  cases hn
def T_X10_marks : List (Nat × Ent) := [(0, .iconst 0, 1, []), (1, .istore_n 2, 2, []), (2, .iload_n 2, 3, []), (3, .aload_n 0, 4, []), (4, .getfield 236, 7, []), (7, .if_icmp .ge 24, 10, [31]), (10, .aload_n 0, 11, []), (11, .getfield 54, 14, []), (14, .aload_n 0, 15, []), (15, .getfield 66, 18, []), (18, .iload_n 2, 19, []), (19, .iaload, 20, []), (20, .dup2, 21, []), (21, .iaload, 22, []), (22, .iload_n 1, 23, []), (23, .ior, 24, []), (24, .iastore, 25, []), (25, .iinc 2 1, 28, []), (28, .goto (-26), 31, [2]), (31, .aload_n 0, 32, []), (32, .getfield 192, 35, []), (35, .iconst 1, 36, []), (36, .isub, 37, []), (37, .istore_n 2, 38, []), (38, .iload_n 2, 39, []), (39, .bipush 27, 41, []), (41, .if_icmp .lt 48, 44, [89]), (44, .aload_n 0, 45, []), (45, .getfield 54, 48, []), (48, .iload_n 2, 49, []), (49, .iaload, 50, []), (50, .iload_n 1, 51, []), (51, .iand, 52, []), (52, .istore_n 3, 53, []), (53, .aload_n 0, 54, []), (54, .getfield 54, 57, []), (57, .aload_n 0, 58, []), (58, .getfield 48, 61, []), (61, .iload_n 2, 62, []), (62, .iaload, 63, []), (63, .dup2, 64, []), (64, .iaload, 65, []), (65, .iload_n 3, 66, []), (66, .ior, 67, []), (67, .iastore, 68, []), (68, .aload_n 0, 69, []), (69, .getfield 54, 72, []), (72, .aload_n 0, 73, []), (73, .getfield 51, 76, []), (76, .iload_n 2, 77, []), (77, .iaload, 78, []), (78, .dup2, 79, []), (79, .iaload, 80, []), (80, .iload_n 3, 81, []), (81, .ior, 82, []), (82, .iastore, 83, []), (83, .iinc 2 (-1), 86, []), (86, .goto (-48), 89, [38]), (89, .return_, 90, [])]
set_option maxRecDepth 200000 in
theorem tc_X10_marks : T_X10_marks.all (chk cX10_marks) = true := by decide +kernel
def f_X10_marks_L2 (N : Nat) (KO31 : Int32 → Wd → Option Wd) : Nat → Int32 → Int32 → Wd → Option Wd
  | 0, _, _, _ => none
  | n + 1, x1, x2, σ => if (σ.1 41 28) ≤ x2 then (KO31 x1 σ) else ((xld σ 60 13 x2).bind fun v1 => (xld σ 56 2048 v1).bind fun v2 => (xst σ 56 2048 v1 (v2 ||| x1)).bind fun σ3 => f_X10_marks_L2 N KO31 n x1 (x2 + 1) σ3)
def f_X10_marks_L38 (N : Nat) (KO89 : Wd → Option Wd) : Nat → Int32 → Int32 → Wd → Option Wd
  | 0, _, _, _ => none
  | n + 1, x1, x2, σ => if x2 < 27 then (KO89 σ) else ((xld σ 56 2048 x2).bind fun v4 => (xld σ 54 2048 x2).bind fun v5 => (xld σ 56 2048 v5).bind fun v6 => (xst σ 56 2048 v5 (v6 ||| (v4 &&& x1))).bind fun σ7 => (xld σ7 55 2048 x2).bind fun v8 => (xld σ7 56 2048 v8).bind fun v9 => (xst σ7 56 2048 v8 (v9 ||| (v4 &&& x1))).bind fun σ10 => f_X10_marks_L38 N KO89 n x1 (x2 + (-1)) σ10)
def f_X10_marks_J89 (N : Nat) (σ : Wd) : Option Wd :=
  some σ
def f_X10_marks_J31 (N : Nat) (x1 : Int32) (σ : Wd) : Option Wd :=
  f_X10_marks_L38 N (f_X10_marks_J89 N) N x1 ((σ.1 41 27) - 1) σ
def f_X10_marks (N : Nat) (a1 : Int32) (σ : Wd) : Option Wd :=
  f_X10_marks_L2 N (f_X10_marks_J31 N) N a1 0 σ
def a_X10_marks (N : Nat) : List Value → Wd → Option Wd := fun as σ => kSE 41 as (fun r0 => kSI r0 (fun b1 r1 => kS0 r1 (f_X10_marks N b1 σ))) (none)
def ct_X10_marks (N : Nat) : List (Nat × Cal) := []
set_option maxRecDepth 200000 in
theorem md_X10_marks (N : Nat) : MDOK T_X10_marks ft_X10 lt_X10 (ct_X10_marks N) cX10_marks RX10 1 := ⟨tc_X10_marks, fc_X10, lc_X10, (fun _ z => absurd z List.not_mem_nil)⟩
set_option maxRecDepth 200000 in
theorem g_X10_marks_L2 (N : Nat) (KO31 : Int32 → Wd → Option Wd) (hKO31 : ∀ (x1 : Int32) (σ : Wd), GO cX10_marks RX10 4 1 sc0 nI0 nJ0 some (KO31 x1 σ) 31 (mkp 0 4 [(0, .ref 41), (1, .int x1)]) [] σ) : ∀ (n : Nat), ∀ (x1 : Int32) (x2 : Int32) (σ : Wd), GO cX10_marks RX10 4 1 sc0 nI0 nJ0 some (f_X10_marks_L2 N KO31 n x1 x2 σ) 2 (mkp 0 4 [(0, .ref 41), (1, .int x1), (2, .int x2)]) [] σ
  | 0, x1, x2, σ => GO.none
  | n + 1, x1, x2, σ => by
    exact (by refine GO.to (md_X10_marks N) (kl := [(31, fun vs st σ => kS0 st (kA 0 41 vs (kI 1 vs (fun x1 => KO31 x1 σ)))), (2, fun vs st σ => kS0 st (kA 0 41 vs (kI 1 vs (fun x1 => kI 2 vs (fun x2 => f_X10_marks_L2 N KO31 n x1 x2 σ)))))]) (List.forall_mem_cons.mpr ⟨fun vs st σ => go_kS0 (go_kA (fun h0 => go_kI (fun x1 h1 => GO.pat [(0, .ref 41), (1, .int x1)] ⟨h0, h1, trivial⟩ (hKO31 x1 σ)))), List.forall_mem_cons.mpr ⟨fun vs st σ => go_kS0 (go_kA (fun h0 => go_kI (fun x1 h1 => go_kI (fun x2 h2 => GO.pat [(0, .ref 41), (1, .int x1), (2, .int x2)] ⟨h0, h1, h2, trivial⟩ (g_X10_marks_L2 N KO31 hKO31 n x1 x2 σ))))), (fun _ z => absurd z List.not_mem_nil)⟩⟩) 64 ?_ ?_ <;> rfl)
set_option maxRecDepth 200000 in
theorem g_X10_marks_L38 (N : Nat) (KO89 : Wd → Option Wd) (hKO89 : ∀ (σ : Wd), GO cX10_marks RX10 4 1 sc0 nI0 nJ0 some (KO89 σ) 89 (mkp 0 4 []) [] σ) : ∀ (n : Nat), ∀ (x1 : Int32) (x2 : Int32) (σ : Wd), GO cX10_marks RX10 4 1 sc0 nI0 nJ0 some (f_X10_marks_L38 N KO89 n x1 x2 σ) 38 (mkp 0 4 [(0, .ref 41), (1, .int x1), (2, .int x2)]) [] σ
  | 0, x1, x2, σ => GO.none
  | n + 1, x1, x2, σ => by
    exact (by refine GO.to (md_X10_marks N) (kl := [(89, fun vs st σ => kS0 st (KO89 σ)), (38, fun vs st σ => kS0 st (kA 0 41 vs (kI 1 vs (fun x1 => kI 2 vs (fun x2 => f_X10_marks_L38 N KO89 n x1 x2 σ)))))]) (List.forall_mem_cons.mpr ⟨fun vs st σ => go_kS0 (GO.pat [] trivial (hKO89 σ)), List.forall_mem_cons.mpr ⟨fun vs st σ => go_kS0 (go_kA (fun h0 => go_kI (fun x1 h1 => go_kI (fun x2 h2 => GO.pat [(0, .ref 41), (1, .int x1), (2, .int x2)] ⟨h0, h1, h2, trivial⟩ (g_X10_marks_L38 N KO89 hKO89 n x1 x2 σ))))), (fun _ z => absurd z List.not_mem_nil)⟩⟩) 64 ?_ ?_ <;> rfl)
set_option maxRecDepth 200000 in
theorem g_X10_marks_J89 (N : Nat) (σ : Wd) : GO cX10_marks RX10 4 1 sc0 nI0 nJ0 some (f_X10_marks_J89 N σ) 89 (mkp 0 4 []) [] σ := by
  exact (by refine GO.to (md_X10_marks N) (kl := []) ((fun _ z => absurd z List.not_mem_nil)) 64 ?_ ?_ <;> rfl)
set_option maxRecDepth 200000 in
theorem g_X10_marks_J31 (N : Nat) (x1 : Int32) (σ : Wd) : GO cX10_marks RX10 4 1 sc0 nI0 nJ0 some (f_X10_marks_J31 N x1 σ) 31 (mkp 0 4 [(0, .ref 41), (1, .int x1)]) [] σ := by
  exact (by refine GO.to (md_X10_marks N) (kl := [(38, fun vs st σ => kS0 st (kA 0 41 vs (kI 1 vs (fun x1 => kI 2 vs (fun x2 => f_X10_marks_L38 N (f_X10_marks_J89 N) N x1 x2 σ)))))]) (List.forall_mem_cons.mpr ⟨fun vs st σ => go_kS0 (go_kA (fun h0 => go_kI (fun x1 h1 => go_kI (fun x2 h2 => GO.pat [(0, .ref 41), (1, .int x1), (2, .int x2)] ⟨h0, h1, h2, trivial⟩ (g_X10_marks_L38 N (f_X10_marks_J89 N) (g_X10_marks_J89 N) N x1 x2 σ))))), (fun _ z => absurd z List.not_mem_nil)⟩) 64 ?_ ?_ <;> rfl)
set_option maxRecDepth 200000 in
theorem C_X10_marks (N : Nat) : CTV 1 yX10_marks cX10_marks 4 none (a_X10_marks N) := by
  refine CTV.of (own := RX10) (by decide) rfl (fun as σ r h => ?_)
  unfold a_X10_marks at h
  rcases kSE_s h with ⟨r0, rfl, h0⟩ | hn
  ·
    obtain ⟨b1, r1, rfl, h1⟩ := kSI_s h0
    obtain ⟨rfl, h9⟩ := kS0_s h1
    exact ⟨Nat.le_of_ble_eq_true rfl, by refine GO.to (md_X10_marks N) (kl := [(2, fun vs st σ => kS0 st (kA 0 41 vs (kI 1 vs (fun x1 => kI 2 vs (fun x2 => f_X10_marks_L2 N (f_X10_marks_J31 N) N x1 x2 σ)))))]) (List.forall_mem_cons.mpr ⟨fun vs st σ => go_kS0 (go_kA (fun h0 => go_kI (fun x1 h1 => go_kI (fun x2 h2 => GO.pat [(0, .ref 41), (1, .int x1), (2, .int x2)] ⟨h0, h1, h2, trivial⟩ (g_X10_marks_L2 N (f_X10_marks_J31 N) (g_X10_marks_J31 N) N x1 x2 σ))))), (fun _ z => absurd z List.not_mem_nil)⟩) 64 ?_ ?_ <;> rfl⟩
  cases hn
def T_X10_manyUsed : List (Nat × Ent) := [(0, .iconst 0, 1, []), (1, .istore_n 3, 2, []), (2, .bipush 27, 4, []), (4, .istore 4, 6, []), (6, .iload 4, 8, []), (8, .aload_n 0, 9, []), (9, .getfield 192, 12, []), (12, .if_icmp .ge 45, 15, [57]), (15, .iload_n 3, 16, []), (16, .aload_n 0, 17, []), (17, .getfield 54, 20, []), (20, .iload 4, 22, []), (22, .iaload, 23, []), (23, .iload_n 2, 24, []), (24, .iand, 25, []), (25, .iload_n 2, 26, []), (26, .if_icmp .ne 22, 29, [48]), (29, .iload_n 1, 30, []), (30, .ifCond .lt 14, 33, [44]), (33, .aload_n 0, 34, []), (34, .getfield 45, 37, []), (37, .iload 4, 39, []), (39, .iaload, 40, []), (40, .iload_n 1, 41, []), (41, .if_icmp .ne 7, 44, [48]), (44, .iconst 1, 45, []), (45, .goto 4, 48, [49]), (48, .iconst 0, 49, []), (49, .iadd, 50, []), (50, .istore_n 3, 51, []), (51, .iinc 4 1, 54, []), (54, .goto (-48), 57, [6]), (57, .iload_n 3, 58, []), (58, .ireturn, 59, [])]
set_option maxRecDepth 200000 in
theorem tc_X10_manyUsed : T_X10_manyUsed.all (chk cX10_manyUsed) = true := by decide +kernel
def f_X10_manyUsed_L6 (N : Nat) (KO57 : Int32 → Wd → Option (Int32 × Wd)) : Nat → Int32 → Int32 → Int32 → Int32 → Wd → Option (Int32 × Wd)
  | 0, _, _, _, _, _ => none
  | n + 1, x1, x2, x3, x4, σ => if (σ.1 41 27) ≤ x4 then (KO57 x3 σ) else ((xld σ 56 2048 x4).bind fun v1 => if (v1 &&& x2) = x2 then (if x1 < 0 then (f_X10_manyUsed_L6 N KO57 n x1 x2 (x3 + 1) (x4 + 1) σ) else ((xld σ 53 2048 x4).bind fun v2 => if v2 = x1 then (f_X10_manyUsed_L6 N KO57 n x1 x2 (x3 + 1) (x4 + 1) σ) else (f_X10_manyUsed_L6 N KO57 n x1 x2 (x3 + 0) (x4 + 1) σ))) else (f_X10_manyUsed_L6 N KO57 n x1 x2 (x3 + 0) (x4 + 1) σ))
def f_X10_manyUsed_J57 (N : Nat) (x3 : Int32) (σ : Wd) : Option (Int32 × Wd) :=
  some (x3, σ)
def f_X10_manyUsed (N : Nat) (a1 : Int32) (a2 : Int32) (σ : Wd) : Option (Int32 × Wd) :=
  f_X10_manyUsed_L6 N (f_X10_manyUsed_J57 N) N a1 a2 0 27 σ
def a_X10_manyUsed (N : Nat) : List Value → Wd → Option (Int32 × Wd) := fun as σ => kSE 41 as (fun r0 => kSI r0 (fun b1 r1 => kSI r1 (fun b2 r2 => kS0 r2 (f_X10_manyUsed N b1 b2 σ)))) (none)
def ct_X10_manyUsed (N : Nat) : List (Nat × Cal) := []
set_option maxRecDepth 200000 in
theorem md_X10_manyUsed (N : Nat) : MDOK T_X10_manyUsed ft_X10 lt_X10 (ct_X10_manyUsed N) cX10_manyUsed RX10 1 := ⟨tc_X10_manyUsed, fc_X10, lc_X10, (fun _ z => absurd z List.not_mem_nil)⟩
set_option maxRecDepth 200000 in
theorem g_X10_manyUsed_L6 (N : Nat) (KO57 : Int32 → Wd → Option (Int32 × Wd)) (hKO57 : ∀ (x3 : Int32) (σ : Wd), GO cX10_manyUsed RX10 5 1 sc0 rI nJ0 nV0 (KO57 x3 σ) 57 (mkp 0 5 [(3, .int x3)]) [] σ) : ∀ (n : Nat), ∀ (x1 : Int32) (x2 : Int32) (x3 : Int32) (x4 : Int32) (σ : Wd), GO cX10_manyUsed RX10 5 1 sc0 rI nJ0 nV0 (f_X10_manyUsed_L6 N KO57 n x1 x2 x3 x4 σ) 6 (mkp 0 5 [(0, .ref 41), (1, .int x1), (2, .int x2), (3, .int x3), (4, .int x4)]) [] σ
  | 0, x1, x2, x3, x4, σ => GO.none
  | n + 1, x1, x2, x3, x4, σ => by
    exact (by refine GO.to (md_X10_manyUsed N) (kl := [(57, fun vs st σ => kS0 st (kI 3 vs (fun x3 => KO57 x3 σ))), (6, fun vs st σ => kS0 st (kA 0 41 vs (kI 1 vs (fun x1 => kI 2 vs (fun x2 => kI 3 vs (fun x3 => kI 4 vs (fun x4 => f_X10_manyUsed_L6 N KO57 n x1 x2 x3 x4 σ)))))))]) (List.forall_mem_cons.mpr ⟨fun vs st σ => go_kS0 (go_kI (fun x3 h3 => GO.pat [(3, .int x3)] ⟨h3, trivial⟩ (hKO57 x3 σ))), List.forall_mem_cons.mpr ⟨fun vs st σ => go_kS0 (go_kA (fun h0 => go_kI (fun x1 h1 => go_kI (fun x2 h2 => go_kI (fun x3 h3 => go_kI (fun x4 h4 => GO.pat [(0, .ref 41), (1, .int x1), (2, .int x2), (3, .int x3), (4, .int x4)] ⟨h0, h1, h2, h3, h4, trivial⟩ (g_X10_manyUsed_L6 N KO57 hKO57 n x1 x2 x3 x4 σ))))))), (fun _ z => absurd z List.not_mem_nil)⟩⟩) 39 ?_ ?_ <;> rfl)
set_option maxRecDepth 200000 in
theorem g_X10_manyUsed_J57 (N : Nat) (x3 : Int32) (σ : Wd) : GO cX10_manyUsed RX10 5 1 sc0 rI nJ0 nV0 (f_X10_manyUsed_J57 N x3 σ) 57 (mkp 0 5 [(3, .int x3)]) [] σ := by
  exact (by refine GO.to (md_X10_manyUsed N) (kl := []) ((fun _ z => absurd z List.not_mem_nil)) 39 ?_ ?_ <;> rfl)
set_option maxRecDepth 200000 in
theorem C_X10_manyUsed (N : Nat) : CTI 1 yX10_manyUsed cX10_manyUsed 5 (some .int) (a_X10_manyUsed N) := by
  refine CTI.of (own := RX10) (by decide) rfl (fun as σ r h => ?_)
  unfold a_X10_manyUsed at h
  rcases kSE_s h with ⟨r0, rfl, h0⟩ | hn
  ·
    obtain ⟨b1, r1, rfl, h1⟩ := kSI_s h0
    obtain ⟨b2, r2, rfl, h2⟩ := kSI_s h1
    obtain ⟨rfl, h9⟩ := kS0_s h2
    exact ⟨Nat.le_of_ble_eq_true rfl, by refine GO.to (md_X10_manyUsed N) (kl := [(6, fun vs st σ => kS0 st (kA 0 41 vs (kI 1 vs (fun x1 => kI 2 vs (fun x2 => kI 3 vs (fun x3 => kI 4 vs (fun x4 => f_X10_manyUsed_L6 N (f_X10_manyUsed_J57 N) N x1 x2 x3 x4 σ)))))))]) (List.forall_mem_cons.mpr ⟨fun vs st σ => go_kS0 (go_kA (fun h0 => go_kI (fun x1 h1 => go_kI (fun x2 h2 => go_kI (fun x3 h3 => go_kI (fun x4 h4 => GO.pat [(0, .ref 41), (1, .int x1), (2, .int x2), (3, .int x3), (4, .int x4)] ⟨h0, h1, h2, h3, h4, trivial⟩ (g_X10_manyUsed_L6 N (f_X10_manyUsed_J57 N) (g_X10_manyUsed_J57 N) N x1 x2 x3 x4 σ))))))), (fun _ z => absurd z List.not_mem_nil)⟩) 39 ?_ ?_ <;> rfl⟩
  cases hn
def T_X10_tellsTimes : List (Nat × Ent) := [(0, .iconst 0, 1, []), (1, .istore_n 1, 2, []), (2, .iload_n 1, 3, []), (3, .bipush 27, 5, []), (5, .if_icmp .ge 38, 8, [43]), (8, .aload_n 0, 9, []), (9, .getfield 57, 12, []), (12, .iload_n 1, 13, []), (13, .iload_n 1, 14, []), (14, .bipush 24, 16, []), (16, .if_icmp .gt 12, 19, [28]), (19, .aload_n 0, 20, []), (20, .getfield 42, 23, []), (23, .iload_n 1, 24, []), (24, .iaload, 25, []), (25, .goto 4, 28, [29]), (28, .iconst 0, 29, []), (29, .iastore, 30, []), (30, .aload_n 0, 31, []), (31, .getfield 63, 34, []), (34, .iload_n 1, 35, []), (35, .iconst 0, 36, []), (36, .iastore, 37, []), (37, .iinc 1 1, 40, []), (40, .goto (-38), 43, [2]), (43, .bipush 27, 45, []), (45, .istore_n 1, 46, []), (46, .iload_n 1, 47, []), (47, .aload_n 0, 48, []), (48, .getfield 192, 51, []), (51, .if_icmp .ge 143, 54, [194]), (54, .aload_n 0, 55, []), (55, .getfield 48, 58, []), (58, .iload_n 1, 59, []), (59, .iaload, 60, []), (60, .istore_n 2, 61, []), (61, .aload_n 0, 62, []), (62, .getfield 51, 65, []), (65, .iload_n 1, 66, []), (66, .iaload, 67, []), (67, .istore_n 3, 68, []), (68, .aload_n 0, 69, []), (69, .getfield 57, 72, []), (72, .iload_n 2, 73, []), (73, .iaload, 74, []), (74, .aload_n 0, 75, []), (75, .getfield 57, 78, []), (78, .iload_n 3, 79, []), (79, .iaload, 80, []), (80, .if_icmp .le 12, 83, [92]), (83, .aload_n 0, 84, []), (84, .getfield 57, 87, []), (87, .iload_n 2, 88, []), (88, .iaload, 89, []), (89, .goto 9, 92, [98]), (92, .aload_n 0, 93, []), (93, .getfield 57, 96, []), (96, .iload_n 3, 97, []), (97, .iaload, 98, []), (98, .istore 4, 100, []), (100, .aload_n 0, 101, []), (101, .getfield 57, 104, []), (104, .iload_n 2, 105, []), (105, .iaload, 106, []), (106, .iload 4, 108, []), (108, .if_icmp .ne 12, 111, [120]), (111, .aload_n 0, 112, []), (112, .getfield 63, 115, []), (115, .iload_n 2, 116, []), (116, .iaload, 117, []), (117, .goto 4, 120, [121]), (120, .iconst 0, 121, []), (121, .istore 5, 123, []), (123, .aload_n 0, 124, []), (124, .getfield 57, 127, []), (127, .iload_n 3, 128, []), (128, .iaload, 129, []), (129, .iload 4, 131, []), (131, .if_icmp .ne 23, 134, [154]), (134, .aload_n 0, 135, []), (135, .getfield 63, 138, []), (138, .iload_n 3, 139, []), (139, .iaload, 140, []), (140, .iload 5, 142, []), (142, .if_icmp .le 12, 145, [154]), (145, .aload_n 0, 146, []), (146, .getfield 63, 149, []), (149, .iload_n 3, 150, []), (150, .iaload, 151, []), (151, .goto 5, 154, [156]), (154, .iload 5, 156, []), (156, .istore 5, 158, []), (158, .aload_n 0, 159, []), (159, .getfield 57, 162, []), (162, .iload_n 1, 163, []), (163, .aload_n 0, 164, []), (164, .getfield 39, 167, []), (167, .aload_n 0, 168, []), (168, .getfield 45, 171, []), (171, .iload_n 1, 172, []), (172, .iaload, 173, []), (173, .iaload, 174, []), (174, .iload 4, 176, []), (176, .iadd, 177, []), (177, .iastore, 178, []), (178, .aload_n 0, 179, []), (179, .getfield 63, 182, []), (182, .iload_n 1, 183, []), (183, .iconst 1, 184, []), (184, .iload 5, 186, []), (186, .iadd, 187, []), (187, .iastore, 188, []), (188, .iinc 1 1, 191, []), (191, .goto (-145), 194, [46]), (194, .return_, 195, [])]
set_option maxRecDepth 200000 in
theorem tc_X10_tellsTimes : T_X10_tellsTimes.all (chk cX10_tellsTimes) = true := by decide +kernel
def f_X10_tellsTimes_J29 (N : Nat) (KB : Int32 → Wd → Option Wd) (KO43 : Wd → Option Wd) (x1 : Int32) (y1 : Int32) (y2 : Int32) (σ : Wd) : Option Wd :=
  (xst σ 57 2048 y1 y2).bind fun σ1 => (xst σ1 59 2048 x1 0).bind fun σ2 => KB (x1 + 1) σ2
def f_X10_tellsTimes_L2 (N : Nat) (KO43 : Wd → Option Wd) : Nat → Int32 → Wd → Option Wd
  | 0, _, _ => none
  | n + 1, x1, σ => if 27 ≤ x1 then (KO43 σ) else (if 24 < x1 then (f_X10_tellsTimes_J29 N (f_X10_tellsTimes_L2 N KO43 n) KO43 x1 x1 0 σ) else ((xld σ 52 25 x1).bind fun v3 => f_X10_tellsTimes_J29 N (f_X10_tellsTimes_L2 N KO43 n) KO43 x1 x1 v3 σ))
def f_X10_tellsTimes_J156 (N : Nat) (KB : Int32 → Wd → Option Wd) (KO194 : Wd → Option Wd) (x1 : Int32) (x4 : Int32) (y0 : Int32) (σ : Wd) : Option Wd :=
  (xld σ 53 2048 x1).bind fun v13 => (xld σ 51 4 v13).bind fun v14 => (xst σ 57 2048 x1 (v14 + x4)).bind fun σ15 => (xst σ15 59 2048 x1 (1 + y0)).bind fun σ16 => KB (x1 + 1) σ16
def f_X10_tellsTimes_J154 (N : Nat) (KB : Int32 → Wd → Option Wd) (KO194 : Wd → Option Wd) (x1 : Int32) (x4 : Int32) (x5 : Int32) (σ : Wd) : Option Wd :=
  f_X10_tellsTimes_J156 N KB KO194 x1 x4 x5 σ
def f_X10_tellsTimes_J121 (N : Nat) (KB : Int32 → Wd → Option Wd) (KO194 : Wd → Option Wd) (x1 : Int32) (x3 : Int32) (x4 : Int32) (y0 : Int32) (σ : Wd) : Option Wd :=
  (xld σ 57 2048 x3).bind fun v11 => if v11 = x4 then ((xld σ 59 2048 x3).bind fun v12 => if v12 ≤ y0 then (f_X10_tellsTimes_J154 N KB KO194 x1 x4 y0 σ) else ((xld σ 59 2048 x3).bind fun v17 => f_X10_tellsTimes_J156 N KB KO194 x1 x4 v17 σ)) else (f_X10_tellsTimes_J154 N KB KO194 x1 x4 y0 σ)
def f_X10_tellsTimes_J98 (N : Nat) (KB : Int32 → Wd → Option Wd) (KO194 : Wd → Option Wd) (x1 : Int32) (x2 : Int32) (x3 : Int32) (y0 : Int32) (σ : Wd) : Option Wd :=
  (xld σ 57 2048 x2).bind fun v9 => if v9 = y0 then ((xld σ 59 2048 x2).bind fun v10 => f_X10_tellsTimes_J121 N KB KO194 x1 x3 y0 v10 σ) else (f_X10_tellsTimes_J121 N KB KO194 x1 x3 y0 0 σ)
def f_X10_tellsTimes_L46 (N : Nat) (KO194 : Wd → Option Wd) : Nat → Int32 → Wd → Option Wd
  | 0, _, _ => none
  | n + 1, x1, σ => if (σ.1 41 27) ≤ x1 then (KO194 σ) else ((xld σ 54 2048 x1).bind fun v4 => (xld σ 55 2048 x1).bind fun v5 => (xld σ 57 2048 v4).bind fun v6 => (xld σ 57 2048 v5).bind fun v7 => if v6 ≤ v7 then ((xld σ 57 2048 v5).bind fun v8 => f_X10_tellsTimes_J98 N (f_X10_tellsTimes_L46 N KO194 n) KO194 x1 v4 v5 v8 σ) else ((xld σ 57 2048 v4).bind fun v18 => f_X10_tellsTimes_J98 N (f_X10_tellsTimes_L46 N KO194 n) KO194 x1 v4 v5 v18 σ))
def f_X10_tellsTimes_J194 (N : Nat) (σ : Wd) : Option Wd :=
  some σ
def f_X10_tellsTimes_J43 (N : Nat) (σ : Wd) : Option Wd :=
  f_X10_tellsTimes_L46 N (f_X10_tellsTimes_J194 N) N 27 σ
def f_X10_tellsTimes (N : Nat) (σ : Wd) : Option Wd :=
  f_X10_tellsTimes_L2 N (f_X10_tellsTimes_J43 N) N 0 σ
def a_X10_tellsTimes (N : Nat) : List Value → Wd → Option Wd := fun as σ => kSE 41 as (fun r0 => kS0 r0 (f_X10_tellsTimes N σ)) (none)
def ct_X10_tellsTimes (N : Nat) : List (Nat × Cal) := []
set_option maxRecDepth 200000 in
theorem md_X10_tellsTimes (N : Nat) : MDOK T_X10_tellsTimes ft_X10 lt_X10 (ct_X10_tellsTimes N) cX10_tellsTimes RX10 1 := ⟨tc_X10_tellsTimes, fc_X10, lc_X10, (fun _ z => absurd z List.not_mem_nil)⟩
set_option maxRecDepth 200000 in
theorem g_X10_tellsTimes_J29 (N : Nat) (KB : Int32 → Wd → Option Wd) (hKB : ∀ (x1 : Int32) (σ : Wd), GO cX10_tellsTimes RX10 6 1 sc0 nI0 nJ0 some (KB x1 σ) 2 (mkp 0 6 [(0, .ref 41), (1, .int x1)]) [] σ) (KO43 : Wd → Option Wd) (hKO43 : ∀ (σ : Wd), GO cX10_tellsTimes RX10 6 1 sc0 nI0 nJ0 some (KO43 σ) 43 (mkp 0 6 [(0, .ref 41)]) [] σ) (x1 : Int32) (y1 : Int32) (y2 : Int32) (σ : Wd) : GO cX10_tellsTimes RX10 6 1 sc0 nI0 nJ0 some (f_X10_tellsTimes_J29 N KB KO43 x1 y1 y2 σ) 29 (mkp 0 6 [(0, .ref 41), (1, .int x1)]) [.int y2, .int y1, .ref 57] σ := by
  exact (by refine GO.to (md_X10_tellsTimes N) (kl := [(2, fun vs st σ => kS0 st (kA 0 41 vs (kI 1 vs (fun x1 => KB x1 σ))))]) (List.forall_mem_cons.mpr ⟨fun vs st σ => go_kS0 (go_kA (fun h0 => go_kI (fun x1 h1 => GO.pat [(0, .ref 41), (1, .int x1)] ⟨h0, h1, trivial⟩ (hKB x1 σ)))), (fun _ z => absurd z List.not_mem_nil)⟩) 120 ?_ ?_ <;> rfl)
set_option maxRecDepth 200000 in
theorem g_X10_tellsTimes_L2 (N : Nat) (KO43 : Wd → Option Wd) (hKO43 : ∀ (σ : Wd), GO cX10_tellsTimes RX10 6 1 sc0 nI0 nJ0 some (KO43 σ) 43 (mkp 0 6 [(0, .ref 41)]) [] σ) : ∀ (n : Nat), ∀ (x1 : Int32) (σ : Wd), GO cX10_tellsTimes RX10 6 1 sc0 nI0 nJ0 some (f_X10_tellsTimes_L2 N KO43 n x1 σ) 2 (mkp 0 6 [(0, .ref 41), (1, .int x1)]) [] σ
  | 0, x1, σ => GO.none
  | n + 1, x1, σ => by
    exact (by refine GO.to (md_X10_tellsTimes N) (kl := [(43, fun vs st σ => kS0 st (kA 0 41 vs (KO43 σ))), (29, fun vs st σ => kStaii 57 st (fun y1 y2 => kA 0 41 vs (kI 1 vs (fun x1 => f_X10_tellsTimes_J29 N (f_X10_tellsTimes_L2 N KO43 n) KO43 x1 y1 y2 σ))))]) (List.forall_mem_cons.mpr ⟨fun vs st σ => go_kS0 (go_kA (fun h0 => GO.pat [(0, .ref 41)] ⟨h0, trivial⟩ (hKO43 σ))), List.forall_mem_cons.mpr ⟨fun vs st σ => go_kStaii (fun y1 y2 => go_kA (fun h0 => go_kI (fun x1 h1 => GO.pat [(0, .ref 41), (1, .int x1)] ⟨h0, h1, trivial⟩ (g_X10_tellsTimes_J29 N (f_X10_tellsTimes_L2 N KO43 n) (g_X10_tellsTimes_L2 N KO43 hKO43 n) KO43 hKO43 x1 y1 y2 σ)))), (fun _ z => absurd z List.not_mem_nil)⟩⟩) 120 ?_ ?_ <;> rfl)
set_option maxRecDepth 200000 in
theorem g_X10_tellsTimes_J156 (N : Nat) (KB : Int32 → Wd → Option Wd) (hKB : ∀ (x1 : Int32) (σ : Wd), GO cX10_tellsTimes RX10 6 1 sc0 nI0 nJ0 some (KB x1 σ) 46 (mkp 0 6 [(0, .ref 41), (1, .int x1)]) [] σ) (KO194 : Wd → Option Wd) (hKO194 : ∀ (σ : Wd), GO cX10_tellsTimes RX10 6 1 sc0 nI0 nJ0 some (KO194 σ) 194 (mkp 0 6 []) [] σ) (x1 : Int32) (x4 : Int32) (y0 : Int32) (σ : Wd) : GO cX10_tellsTimes RX10 6 1 sc0 nI0 nJ0 some (f_X10_tellsTimes_J156 N KB KO194 x1 x4 y0 σ) 156 (mkp 0 6 [(0, .ref 41), (1, .int x1), (4, .int x4)]) [.int y0] σ := by
  exact (by refine GO.to (md_X10_tellsTimes N) (kl := [(46, fun vs st σ => kS0 st (kA 0 41 vs (kI 1 vs (fun x1 => KB x1 σ))))]) (List.forall_mem_cons.mpr ⟨fun vs st σ => go_kS0 (go_kA (fun h0 => go_kI (fun x1 h1 => GO.pat [(0, .ref 41), (1, .int x1)] ⟨h0, h1, trivial⟩ (hKB x1 σ)))), (fun _ z => absurd z List.not_mem_nil)⟩) 120 ?_ ?_ <;> rfl)
set_option maxRecDepth 200000 in
theorem g_X10_tellsTimes_J154 (N : Nat) (KB : Int32 → Wd → Option Wd) (hKB : ∀ (x1 : Int32) (σ : Wd), GO cX10_tellsTimes RX10 6 1 sc0 nI0 nJ0 some (KB x1 σ) 46 (mkp 0 6 [(0, .ref 41), (1, .int x1)]) [] σ) (KO194 : Wd → Option Wd) (hKO194 : ∀ (σ : Wd), GO cX10_tellsTimes RX10 6 1 sc0 nI0 nJ0 some (KO194 σ) 194 (mkp 0 6 []) [] σ) (x1 : Int32) (x4 : Int32) (x5 : Int32) (σ : Wd) : GO cX10_tellsTimes RX10 6 1 sc0 nI0 nJ0 some (f_X10_tellsTimes_J154 N KB KO194 x1 x4 x5 σ) 154 (mkp 0 6 [(0, .ref 41), (1, .int x1), (4, .int x4), (5, .int x5)]) [] σ := by
  exact (by refine GO.to (md_X10_tellsTimes N) (kl := [(156, fun vs st σ => kSti st (fun y0 => kA 0 41 vs (kI 1 vs (fun x1 => kI 4 vs (fun x4 => f_X10_tellsTimes_J156 N KB KO194 x1 x4 y0 σ)))))]) (List.forall_mem_cons.mpr ⟨fun vs st σ => go_kSti (fun y0 => go_kA (fun h0 => go_kI (fun x1 h1 => go_kI (fun x4 h4 => GO.pat [(0, .ref 41), (1, .int x1), (4, .int x4)] ⟨h0, h1, h4, trivial⟩ (g_X10_tellsTimes_J156 N KB hKB KO194 hKO194 x1 x4 y0 σ))))), (fun _ z => absurd z List.not_mem_nil)⟩) 120 ?_ ?_ <;> rfl)
set_option maxRecDepth 200000 in
theorem g_X10_tellsTimes_J121 (N : Nat) (KB : Int32 → Wd → Option Wd) (hKB : ∀ (x1 : Int32) (σ : Wd), GO cX10_tellsTimes RX10 6 1 sc0 nI0 nJ0 some (KB x1 σ) 46 (mkp 0 6 [(0, .ref 41), (1, .int x1)]) [] σ) (KO194 : Wd → Option Wd) (hKO194 : ∀ (σ : Wd), GO cX10_tellsTimes RX10 6 1 sc0 nI0 nJ0 some (KO194 σ) 194 (mkp 0 6 []) [] σ) (x1 : Int32) (x3 : Int32) (x4 : Int32) (y0 : Int32) (σ : Wd) : GO cX10_tellsTimes RX10 6 1 sc0 nI0 nJ0 some (f_X10_tellsTimes_J121 N KB KO194 x1 x3 x4 y0 σ) 121 (mkp 0 6 [(0, .ref 41), (1, .int x1), (3, .int x3), (4, .int x4)]) [.int y0] σ := by
  exact (by refine GO.to (md_X10_tellsTimes N) (kl := [(154, fun vs st σ => kS0 st (kA 0 41 vs (kI 1 vs (fun x1 => kI 4 vs (fun x4 => kI 5 vs (fun x5 => f_X10_tellsTimes_J154 N KB KO194 x1 x4 x5 σ)))))), (156, fun vs st σ => kSti st (fun y0 => kA 0 41 vs (kI 1 vs (fun x1 => kI 4 vs (fun x4 => f_X10_tellsTimes_J156 N KB KO194 x1 x4 y0 σ)))))]) (List.forall_mem_cons.mpr ⟨fun vs st σ => go_kS0 (go_kA (fun h0 => go_kI (fun x1 h1 => go_kI (fun x4 h4 => go_kI (fun x5 h5 => GO.pat [(0, .ref 41), (1, .int x1), (4, .int x4), (5, .int x5)] ⟨h0, h1, h4, h5, trivial⟩ (g_X10_tellsTimes_J154 N KB hKB KO194 hKO194 x1 x4 x5 σ)))))), List.forall_mem_cons.mpr ⟨fun vs st σ => go_kSti (fun y0 => go_kA (fun h0 => go_kI (fun x1 h1 => go_kI (fun x4 h4 => GO.pat [(0, .ref 41), (1, .int x1), (4, .int x4)] ⟨h0, h1, h4, trivial⟩ (g_X10_tellsTimes_J156 N KB hKB KO194 hKO194 x1 x4 y0 σ))))), (fun _ z => absurd z List.not_mem_nil)⟩⟩) 120 ?_ ?_ <;> rfl)
set_option maxRecDepth 200000 in
theorem g_X10_tellsTimes_J98 (N : Nat) (KB : Int32 → Wd → Option Wd) (hKB : ∀ (x1 : Int32) (σ : Wd), GO cX10_tellsTimes RX10 6 1 sc0 nI0 nJ0 some (KB x1 σ) 46 (mkp 0 6 [(0, .ref 41), (1, .int x1)]) [] σ) (KO194 : Wd → Option Wd) (hKO194 : ∀ (σ : Wd), GO cX10_tellsTimes RX10 6 1 sc0 nI0 nJ0 some (KO194 σ) 194 (mkp 0 6 []) [] σ) (x1 : Int32) (x2 : Int32) (x3 : Int32) (y0 : Int32) (σ : Wd) : GO cX10_tellsTimes RX10 6 1 sc0 nI0 nJ0 some (f_X10_tellsTimes_J98 N KB KO194 x1 x2 x3 y0 σ) 98 (mkp 0 6 [(0, .ref 41), (1, .int x1), (2, .int x2), (3, .int x3)]) [.int y0] σ := by
  exact (by refine GO.to (md_X10_tellsTimes N) (kl := [(121, fun vs st σ => kSti st (fun y0 => kA 0 41 vs (kI 1 vs (fun x1 => kI 3 vs (fun x3 => kI 4 vs (fun x4 => f_X10_tellsTimes_J121 N KB KO194 x1 x3 x4 y0 σ))))))]) (List.forall_mem_cons.mpr ⟨fun vs st σ => go_kSti (fun y0 => go_kA (fun h0 => go_kI (fun x1 h1 => go_kI (fun x3 h3 => go_kI (fun x4 h4 => GO.pat [(0, .ref 41), (1, .int x1), (3, .int x3), (4, .int x4)] ⟨h0, h1, h3, h4, trivial⟩ (g_X10_tellsTimes_J121 N KB hKB KO194 hKO194 x1 x3 x4 y0 σ)))))), (fun _ z => absurd z List.not_mem_nil)⟩) 120 ?_ ?_ <;> rfl)
set_option maxRecDepth 200000 in
theorem g_X10_tellsTimes_L46 (N : Nat) (KO194 : Wd → Option Wd) (hKO194 : ∀ (σ : Wd), GO cX10_tellsTimes RX10 6 1 sc0 nI0 nJ0 some (KO194 σ) 194 (mkp 0 6 []) [] σ) : ∀ (n : Nat), ∀ (x1 : Int32) (σ : Wd), GO cX10_tellsTimes RX10 6 1 sc0 nI0 nJ0 some (f_X10_tellsTimes_L46 N KO194 n x1 σ) 46 (mkp 0 6 [(0, .ref 41), (1, .int x1)]) [] σ
  | 0, x1, σ => GO.none
  | n + 1, x1, σ => by
    exact (by refine GO.to (md_X10_tellsTimes N) (kl := [(194, fun vs st σ => kS0 st (KO194 σ)), (98, fun vs st σ => kSti st (fun y0 => kA 0 41 vs (kI 1 vs (fun x1 => kI 2 vs (fun x2 => kI 3 vs (fun x3 => f_X10_tellsTimes_J98 N (f_X10_tellsTimes_L46 N KO194 n) KO194 x1 x2 x3 y0 σ))))))]) (List.forall_mem_cons.mpr ⟨fun vs st σ => go_kS0 (GO.pat [] trivial (hKO194 σ)), List.forall_mem_cons.mpr ⟨fun vs st σ => go_kSti (fun y0 => go_kA (fun h0 => go_kI (fun x1 h1 => go_kI (fun x2 h2 => go_kI (fun x3 h3 => GO.pat [(0, .ref 41), (1, .int x1), (2, .int x2), (3, .int x3)] ⟨h0, h1, h2, h3, trivial⟩ (g_X10_tellsTimes_J98 N (f_X10_tellsTimes_L46 N KO194 n) (g_X10_tellsTimes_L46 N KO194 hKO194 n) KO194 hKO194 x1 x2 x3 y0 σ)))))), (fun _ z => absurd z List.not_mem_nil)⟩⟩) 120 ?_ ?_ <;> rfl)
set_option maxRecDepth 200000 in
theorem g_X10_tellsTimes_J194 (N : Nat) (σ : Wd) : GO cX10_tellsTimes RX10 6 1 sc0 nI0 nJ0 some (f_X10_tellsTimes_J194 N σ) 194 (mkp 0 6 []) [] σ := by
  exact (by refine GO.to (md_X10_tellsTimes N) (kl := []) ((fun _ z => absurd z List.not_mem_nil)) 120 ?_ ?_ <;> rfl)
set_option maxRecDepth 200000 in
theorem g_X10_tellsTimes_J43 (N : Nat) (σ : Wd) : GO cX10_tellsTimes RX10 6 1 sc0 nI0 nJ0 some (f_X10_tellsTimes_J43 N σ) 43 (mkp 0 6 [(0, .ref 41)]) [] σ := by
  exact (by refine GO.to (md_X10_tellsTimes N) (kl := [(46, fun vs st σ => kS0 st (kA 0 41 vs (kI 1 vs (fun x1 => f_X10_tellsTimes_L46 N (f_X10_tellsTimes_J194 N) N x1 σ))))]) (List.forall_mem_cons.mpr ⟨fun vs st σ => go_kS0 (go_kA (fun h0 => go_kI (fun x1 h1 => GO.pat [(0, .ref 41), (1, .int x1)] ⟨h0, h1, trivial⟩ (g_X10_tellsTimes_L46 N (f_X10_tellsTimes_J194 N) (g_X10_tellsTimes_J194 N) N x1 σ)))), (fun _ z => absurd z List.not_mem_nil)⟩) 120 ?_ ?_ <;> rfl)
set_option maxRecDepth 200000 in
theorem C_X10_tellsTimes (N : Nat) : CTV 1 yX10_tellsTimes cX10_tellsTimes 6 none (a_X10_tellsTimes N) := by
  refine CTV.of (own := RX10) (by decide) rfl (fun as σ r h => ?_)
  unfold a_X10_tellsTimes at h
  rcases kSE_s h with ⟨r0, rfl, h0⟩ | hn
  ·
    obtain ⟨rfl, h9⟩ := kS0_s h0
    exact ⟨Nat.le_of_ble_eq_true rfl, by refine GO.to (md_X10_tellsTimes N) (kl := [(2, fun vs st σ => kS0 st (kA 0 41 vs (kI 1 vs (fun x1 => f_X10_tellsTimes_L2 N (f_X10_tellsTimes_J43 N) N x1 σ))))]) (List.forall_mem_cons.mpr ⟨fun vs st σ => go_kS0 (go_kA (fun h0 => go_kI (fun x1 h1 => GO.pat [(0, .ref 41), (1, .int x1)] ⟨h0, h1, trivial⟩ (g_X10_tellsTimes_L2 N (f_X10_tellsTimes_J43 N) (g_X10_tellsTimes_J43 N) N x1 σ)))), (fun _ z => absurd z List.not_mem_nil)⟩) 120 ?_ ?_ <;> rfl⟩
  cases hn
def T_X10_lastOut : List (Nat × Ent) := [(0, .iconst 0, 1, []), (1, .istore_n 1, 2, []), (2, .iconst 0, 3, []), (3, .istore_n 2, 4, []), (4, .iload_n 2, 5, []), (5, .aload_n 0, 6, []), (6, .getfield 236, 9, []), (9, .if_icmp .ge 40, 12, [49]), (12, .aload_n 0, 13, []), (13, .getfield 57, 16, []), (16, .aload_n 0, 17, []), (17, .getfield 66, 20, []), (20, .iload_n 2, 21, []), (21, .iaload, 22, []), (22, .iaload, 23, []), (23, .iload_n 1, 24, []), (24, .if_icmp .le 17, 27, [41]), (27, .aload_n 0, 28, []), (28, .getfield 57, 31, []), (31, .aload_n 0, 32, []), (32, .getfield 66, 35, []), (35, .iload_n 2, 36, []), (36, .iaload, 37, []), (37, .iaload, 38, []), (38, .goto 4, 41, [42]), (41, .iload_n 1, 42, []), (42, .istore_n 1, 43, []), (43, .iinc 2 1, 46, []), (46, .goto (-42), 49, [4]), (49, .iload_n 1, 50, []), (50, .ireturn, 51, [])]
set_option maxRecDepth 200000 in
theorem tc_X10_lastOut : T_X10_lastOut.all (chk cX10_lastOut) = true := by decide +kernel
def f_X10_lastOut_L4 (N : Nat) (KO49 : Int32 → Wd → Option (Int32 × Wd)) : Nat → Int32 → Int32 → Wd → Option (Int32 × Wd)
  | 0, _, _, _ => none
  | n + 1, x1, x2, σ => if (σ.1 41 28) ≤ x2 then (KO49 x1 σ) else ((xld σ 60 13 x2).bind fun v1 => (xld σ 57 2048 v1).bind fun v2 => if v2 ≤ x1 then (f_X10_lastOut_L4 N KO49 n x1 (x2 + 1) σ) else ((xld σ 60 13 x2).bind fun v3 => (xld σ 57 2048 v3).bind fun v4 => f_X10_lastOut_L4 N KO49 n v4 (x2 + 1) σ))
def f_X10_lastOut_J49 (N : Nat) (x1 : Int32) (σ : Wd) : Option (Int32 × Wd) :=
  some (x1, σ)
def f_X10_lastOut (N : Nat) (σ : Wd) : Option (Int32 × Wd) :=
  f_X10_lastOut_L4 N (f_X10_lastOut_J49 N) N 0 0 σ
def a_X10_lastOut (N : Nat) : List Value → Wd → Option (Int32 × Wd) := fun as σ => kSE 41 as (fun r0 => kS0 r0 (f_X10_lastOut N σ)) (none)
def ct_X10_lastOut (N : Nat) : List (Nat × Cal) := []
set_option maxRecDepth 200000 in
theorem md_X10_lastOut (N : Nat) : MDOK T_X10_lastOut ft_X10 lt_X10 (ct_X10_lastOut N) cX10_lastOut RX10 1 := ⟨tc_X10_lastOut, fc_X10, lc_X10, (fun _ z => absurd z List.not_mem_nil)⟩
set_option maxRecDepth 200000 in
theorem g_X10_lastOut_L4 (N : Nat) (KO49 : Int32 → Wd → Option (Int32 × Wd)) (hKO49 : ∀ (x1 : Int32) (σ : Wd), GO cX10_lastOut RX10 3 1 sc0 rI nJ0 nV0 (KO49 x1 σ) 49 (mkp 0 3 [(1, .int x1)]) [] σ) : ∀ (n : Nat), ∀ (x1 : Int32) (x2 : Int32) (σ : Wd), GO cX10_lastOut RX10 3 1 sc0 rI nJ0 nV0 (f_X10_lastOut_L4 N KO49 n x1 x2 σ) 4 (mkp 0 3 [(0, .ref 41), (1, .int x1), (2, .int x2)]) [] σ
  | 0, x1, x2, σ => GO.none
  | n + 1, x1, x2, σ => by
    exact (by refine GO.to (md_X10_lastOut N) (kl := [(49, fun vs st σ => kS0 st (kI 1 vs (fun x1 => KO49 x1 σ))), (4, fun vs st σ => kS0 st (kA 0 41 vs (kI 1 vs (fun x1 => kI 2 vs (fun x2 => f_X10_lastOut_L4 N KO49 n x1 x2 σ)))))]) (List.forall_mem_cons.mpr ⟨fun vs st σ => go_kS0 (go_kI (fun x1 h1 => GO.pat [(1, .int x1)] ⟨h1, trivial⟩ (hKO49 x1 σ))), List.forall_mem_cons.mpr ⟨fun vs st σ => go_kS0 (go_kA (fun h0 => go_kI (fun x1 h1 => go_kI (fun x2 h2 => GO.pat [(0, .ref 41), (1, .int x1), (2, .int x2)] ⟨h0, h1, h2, trivial⟩ (g_X10_lastOut_L4 N KO49 hKO49 n x1 x2 σ))))), (fun _ z => absurd z List.not_mem_nil)⟩⟩) 36 ?_ ?_ <;> rfl)
set_option maxRecDepth 200000 in
theorem g_X10_lastOut_J49 (N : Nat) (x1 : Int32) (σ : Wd) : GO cX10_lastOut RX10 3 1 sc0 rI nJ0 nV0 (f_X10_lastOut_J49 N x1 σ) 49 (mkp 0 3 [(1, .int x1)]) [] σ := by
  exact (by refine GO.to (md_X10_lastOut N) (kl := []) ((fun _ z => absurd z List.not_mem_nil)) 36 ?_ ?_ <;> rfl)
set_option maxRecDepth 200000 in
theorem C_X10_lastOut (N : Nat) : CTI 1 yX10_lastOut cX10_lastOut 3 (some .int) (a_X10_lastOut N) := by
  refine CTI.of (own := RX10) (by decide) rfl (fun as σ r h => ?_)
  unfold a_X10_lastOut at h
  rcases kSE_s h with ⟨r0, rfl, h0⟩ | hn
  ·
    obtain ⟨rfl, h9⟩ := kS0_s h0
    exact ⟨Nat.le_of_ble_eq_true rfl, by refine GO.to (md_X10_lastOut N) (kl := [(4, fun vs st σ => kS0 st (kA 0 41 vs (kI 1 vs (fun x1 => kI 2 vs (fun x2 => f_X10_lastOut_L4 N (f_X10_lastOut_J49 N) N x1 x2 σ)))))]) (List.forall_mem_cons.mpr ⟨fun vs st σ => go_kS0 (go_kA (fun h0 => go_kI (fun x1 h1 => go_kI (fun x2 h2 => GO.pat [(0, .ref 41), (1, .int x1), (2, .int x2)] ⟨h0, h1, h2, trivial⟩ (g_X10_lastOut_L4 N (f_X10_lastOut_J49 N) (g_X10_lastOut_J49 N) N x1 x2 σ))))), (fun _ z => absurd z List.not_mem_nil)⟩) 36 ?_ ?_ <;> rfl⟩
  cases hn
def T_X10_evaluates : List (Nat × Ent) := [(0, .iconst 0, 1, []), (1, .istore 4, 3, []), (3, .iload 4, 5, []), (5, .bipush 12, 7, []), (7, .if_icmp .ge 38, 10, [45]), (10, .aload_n 0, 11, []), (11, .getfield 60, 14, []), (14, .iload 4, 16, []), (16, .iload_n 1, 17, []), (17, .iload 4, 19, []), (19, .ishr, 20, []), (20, .iconst 1, 21, []), (21, .iand, 22, []), (22, .iastore, 23, []), (23, .aload_n 0, 24, []), (24, .getfield 60, 27, []), (27, .bipush 12, 29, []), (29, .iload 4, 31, []), (31, .iadd, 32, []), (32, .iload_n 2, 33, []), (33, .iload 4, 35, []), (35, .ishr, 36, []), (36, .iconst 1, 37, []), (37, .iand, 38, []), (38, .iastore, 39, []), (39, .iinc 4 1, 42, []), (42, .goto (-39), 45, [3]), (45, .aload_n 0, 46, []), (46, .getfield 60, 49, []), (49, .bipush 24, 51, []), (51, .iload_n 3, 52, []), (52, .iastore, 53, []), (53, .aload_n 0, 54, []), (54, .getfield 60, 57, []), (57, .bipush 25, 59, []), (59, .iconst 0, 60, []), (60, .iastore, 61, []), (61, .aload_n 0, 62, []), (62, .getfield 60, 65, []), (65, .bipush 26, 67, []), (67, .iconst 1, 68, []), (68, .iastore, 69, []), (69, .bipush 27, 71, []), (71, .istore 4, 73, []), (73, .iload 4, 75, []), (75, .aload_n 0, 76, []), (76, .getfield 192, 79, []), (79, .if_icmp .ge 104, 82, [183]), (82, .aload_n 0, 83, []), (83, .getfield 60, 86, []), (86, .aload_n 0, 87, []), (87, .getfield 48, 90, []), (90, .iload 4, 92, []), (92, .iaload, 93, []), (93, .iaload, 94, []), (94, .istore 5, 96, []), (96, .aload_n 0, 97, []), (97, .getfield 60, 100, []), (100, .aload_n 0, 101, []), (101, .getfield 51, 104, []), (104, .iload 4, 106, []), (106, .iaload, 107, []), (107, .iaload, 108, []), (108, .istore 6, 110, []), (110, .aload_n 0, 111, []), (111, .getfield 60, 114, []), (114, .iload 4, 116, []), (116, .aload_n 0, 117, []), (117, .getfield 45, 120, []), (120, .iload 4, 122, []), (122, .iaload, 123, []), (123, .ifCond .ne 10, 126, [133]), (126, .iconst 1, 127, []), (127, .iload 5, 129, []), (129, .isub, 130, []), (130, .goto 46, 133, [176]), (133, .aload_n 0, 134, []), (134, .getfield 45, 137, []), (137, .iload 4, 139, []), (139, .iaload, 140, []), (140, .iconst 1, 141, []), (141, .if_icmp .ne 11, 144, [152]), (144, .iload 5, 146, []), (146, .iload 6, 148, []), (148, .iand, 149, []), (149, .goto 27, 152, [176]), (152, .aload_n 0, 153, []), (153, .getfield 45, 156, []), (156, .iload 4, 158, []), (158, .iaload, 159, []), (159, .iconst 2, 160, []), (160, .if_icmp .ne 11, 163, [171]), (163, .iload 5, 165, []), (165, .iload 6, 167, []), (167, .ior, 168, []), (168, .goto 8, 171, [176]), (171, .iload 5, 173, []), (173, .iload 6, 175, []), (175, .ixor, 176, []), (176, .iastore, 177, []), (177, .iinc 4 1, 180, []), (180, .goto (-107), 183, [73]), (183, .return_, 184, [])]
set_option maxRecDepth 200000 in
theorem tc_X10_evaluates : T_X10_evaluates.all (chk cX10_evaluates) = true := by decide +kernel
def f_X10_evaluates_L3 (N : Nat) (KO45 : Int32 → Wd → Option Wd) : Nat → Int32 → Int32 → Int32 → Int32 → Wd → Option Wd
  | 0, _, _, _, _, _ => none
  | n + 1, x1, x2, x3, x4, σ => if 12 ≤ x4 then (KO45 x3 σ) else ((xst σ 58 2048 x4 ((x1 >>> (x4 &&& 31)) &&& (1 : Int32))).bind fun σ1 => (xst σ1 58 2048 (12 + x4) ((x2 >>> (x4 &&& 31)) &&& (1 : Int32))).bind fun σ2 => f_X10_evaluates_L3 N KO45 n x1 x2 x3 (x4 + 1) σ2)
def f_X10_evaluates_L73 (N : Nat) (KO183 : Wd → Option Wd) : Nat → Int32 → Wd → Option Wd
  | 0, _, _ => none
  | n + 1, x4, σ => if (σ.1 41 27) ≤ x4 then (KO183 σ) else ((xld σ 54 2048 x4).bind fun v6 => (xld σ 58 2048 v6).bind fun v7 => (xld σ 55 2048 x4).bind fun v8 => (xld σ 58 2048 v8).bind fun v9 => (xld σ 53 2048 x4).bind fun v10 => if v10 = 0 then ((xst σ 58 2048 x4 (1 - v7)).bind fun σ11 => f_X10_evaluates_L73 N KO183 n (x4 + 1) σ11) else ((xld σ 53 2048 x4).bind fun v12 => if v12 = 1 then ((xst σ 58 2048 x4 (v7 &&& v9)).bind fun σ13 => f_X10_evaluates_L73 N KO183 n (x4 + 1) σ13) else ((xld σ 53 2048 x4).bind fun v14 => if v14 = 2 then ((xst σ 58 2048 x4 (v7 ||| v9)).bind fun σ15 => f_X10_evaluates_L73 N KO183 n (x4 + 1) σ15) else ((xst σ 58 2048 x4 (v7 ^^^ v9)).bind fun σ16 => f_X10_evaluates_L73 N KO183 n (x4 + 1) σ16))))
def f_X10_evaluates_J183 (N : Nat) (σ : Wd) : Option Wd :=
  some σ
def f_X10_evaluates_J45 (N : Nat) (x3 : Int32) (σ : Wd) : Option Wd :=
  (xst σ 58 2048 24 x3).bind fun σ3 => (xst σ3 58 2048 25 0).bind fun σ4 => (xst σ4 58 2048 26 1).bind fun σ5 => f_X10_evaluates_L73 N (f_X10_evaluates_J183 N) N 27 σ5
def f_X10_evaluates (N : Nat) (a1 : Int32) (a2 : Int32) (a3 : Int32) (σ : Wd) : Option Wd :=
  f_X10_evaluates_L3 N (f_X10_evaluates_J45 N) N a1 a2 a3 0 σ
def a_X10_evaluates (N : Nat) : List Value → Wd → Option Wd := fun as σ => kSE 41 as (fun r0 => kSI r0 (fun b1 r1 => kSI r1 (fun b2 r2 => kSI r2 (fun b3 r3 => kS0 r3 (f_X10_evaluates N b1 b2 b3 σ))))) (none)
def ct_X10_evaluates (N : Nat) : List (Nat × Cal) := []
set_option maxRecDepth 200000 in
theorem md_X10_evaluates (N : Nat) : MDOK T_X10_evaluates ft_X10 lt_X10 (ct_X10_evaluates N) cX10_evaluates RX10 1 := ⟨tc_X10_evaluates, fc_X10, lc_X10, (fun _ z => absurd z List.not_mem_nil)⟩
set_option maxRecDepth 200000 in
theorem g_X10_evaluates_L3 (N : Nat) (KO45 : Int32 → Wd → Option Wd) (hKO45 : ∀ (x3 : Int32) (σ : Wd), GO cX10_evaluates RX10 7 1 sc0 nI0 nJ0 some (KO45 x3 σ) 45 (mkp 0 7 [(0, .ref 41), (3, .int x3)]) [] σ) : ∀ (n : Nat), ∀ (x1 : Int32) (x2 : Int32) (x3 : Int32) (x4 : Int32) (σ : Wd), GO cX10_evaluates RX10 7 1 sc0 nI0 nJ0 some (f_X10_evaluates_L3 N KO45 n x1 x2 x3 x4 σ) 3 (mkp 0 7 [(0, .ref 41), (1, .int x1), (2, .int x2), (3, .int x3), (4, .int x4)]) [] σ
  | 0, x1, x2, x3, x4, σ => GO.none
  | n + 1, x1, x2, x3, x4, σ => by
    exact (by refine GO.to (md_X10_evaluates N) (kl := [(45, fun vs st σ => kS0 st (kA 0 41 vs (kI 3 vs (fun x3 => KO45 x3 σ)))), (3, fun vs st σ => kS0 st (kA 0 41 vs (kI 1 vs (fun x1 => kI 2 vs (fun x2 => kI 3 vs (fun x3 => kI 4 vs (fun x4 => f_X10_evaluates_L3 N KO45 n x1 x2 x3 x4 σ)))))))]) (List.forall_mem_cons.mpr ⟨fun vs st σ => go_kS0 (go_kA (fun h0 => go_kI (fun x3 h3 => GO.pat [(0, .ref 41), (3, .int x3)] ⟨h0, h3, trivial⟩ (hKO45 x3 σ)))), List.forall_mem_cons.mpr ⟨fun vs st σ => go_kS0 (go_kA (fun h0 => go_kI (fun x1 h1 => go_kI (fun x2 h2 => go_kI (fun x3 h3 => go_kI (fun x4 h4 => GO.pat [(0, .ref 41), (1, .int x1), (2, .int x2), (3, .int x3), (4, .int x4)] ⟨h0, h1, h2, h3, h4, trivial⟩ (g_X10_evaluates_L3 N KO45 hKO45 n x1 x2 x3 x4 σ))))))), (fun _ z => absurd z List.not_mem_nil)⟩⟩) 108 ?_ ?_ <;> rfl)
set_option maxRecDepth 200000 in
theorem g_X10_evaluates_L73 (N : Nat) (KO183 : Wd → Option Wd) (hKO183 : ∀ (σ : Wd), GO cX10_evaluates RX10 7 1 sc0 nI0 nJ0 some (KO183 σ) 183 (mkp 0 7 []) [] σ) : ∀ (n : Nat), ∀ (x4 : Int32) (σ : Wd), GO cX10_evaluates RX10 7 1 sc0 nI0 nJ0 some (f_X10_evaluates_L73 N KO183 n x4 σ) 73 (mkp 0 7 [(0, .ref 41), (4, .int x4)]) [] σ
  | 0, x4, σ => GO.none
  | n + 1, x4, σ => by
    exact (by refine GO.to (md_X10_evaluates N) (kl := [(183, fun vs st σ => kS0 st (KO183 σ)), (73, fun vs st σ => kS0 st (kA 0 41 vs (kI 4 vs (fun x4 => f_X10_evaluates_L73 N KO183 n x4 σ))))]) (List.forall_mem_cons.mpr ⟨fun vs st σ => go_kS0 (GO.pat [] trivial (hKO183 σ)), List.forall_mem_cons.mpr ⟨fun vs st σ => go_kS0 (go_kA (fun h0 => go_kI (fun x4 h4 => GO.pat [(0, .ref 41), (4, .int x4)] ⟨h0, h4, trivial⟩ (g_X10_evaluates_L73 N KO183 hKO183 n x4 σ)))), (fun _ z => absurd z List.not_mem_nil)⟩⟩) 108 ?_ ?_ <;> rfl)
set_option maxRecDepth 200000 in
theorem g_X10_evaluates_J183 (N : Nat) (σ : Wd) : GO cX10_evaluates RX10 7 1 sc0 nI0 nJ0 some (f_X10_evaluates_J183 N σ) 183 (mkp 0 7 []) [] σ := by
  exact (by refine GO.to (md_X10_evaluates N) (kl := []) ((fun _ z => absurd z List.not_mem_nil)) 108 ?_ ?_ <;> rfl)
set_option maxRecDepth 200000 in
theorem g_X10_evaluates_J45 (N : Nat) (x3 : Int32) (σ : Wd) : GO cX10_evaluates RX10 7 1 sc0 nI0 nJ0 some (f_X10_evaluates_J45 N x3 σ) 45 (mkp 0 7 [(0, .ref 41), (3, .int x3)]) [] σ := by
  exact (by refine GO.to (md_X10_evaluates N) (kl := [(73, fun vs st σ => kS0 st (kA 0 41 vs (kI 4 vs (fun x4 => f_X10_evaluates_L73 N (f_X10_evaluates_J183 N) N x4 σ))))]) (List.forall_mem_cons.mpr ⟨fun vs st σ => go_kS0 (go_kA (fun h0 => go_kI (fun x4 h4 => GO.pat [(0, .ref 41), (4, .int x4)] ⟨h0, h4, trivial⟩ (g_X10_evaluates_L73 N (f_X10_evaluates_J183 N) (g_X10_evaluates_J183 N) N x4 σ)))), (fun _ z => absurd z List.not_mem_nil)⟩) 108 ?_ ?_ <;> rfl)
set_option maxRecDepth 200000 in
theorem C_X10_evaluates (N : Nat) : CTV 1 yX10_evaluates cX10_evaluates 7 none (a_X10_evaluates N) := by
  refine CTV.of (own := RX10) (by decide) rfl (fun as σ r h => ?_)
  unfold a_X10_evaluates at h
  rcases kSE_s h with ⟨r0, rfl, h0⟩ | hn
  ·
    obtain ⟨b1, r1, rfl, h1⟩ := kSI_s h0
    obtain ⟨b2, r2, rfl, h2⟩ := kSI_s h1
    obtain ⟨b3, r3, rfl, h3⟩ := kSI_s h2
    obtain ⟨rfl, h9⟩ := kS0_s h3
    exact ⟨Nat.le_of_ble_eq_true rfl, by refine GO.to (md_X10_evaluates N) (kl := [(3, fun vs st σ => kS0 st (kA 0 41 vs (kI 1 vs (fun x1 => kI 2 vs (fun x2 => kI 3 vs (fun x3 => kI 4 vs (fun x4 => f_X10_evaluates_L3 N (f_X10_evaluates_J45 N) N x1 x2 x3 x4 σ)))))))]) (List.forall_mem_cons.mpr ⟨fun vs st σ => go_kS0 (go_kA (fun h0 => go_kI (fun x1 h1 => go_kI (fun x2 h2 => go_kI (fun x3 h3 => go_kI (fun x4 h4 => GO.pat [(0, .ref 41), (1, .int x1), (2, .int x2), (3, .int x3), (4, .int x4)] ⟨h0, h1, h2, h3, h4, trivial⟩ (g_X10_evaluates_L3 N (f_X10_evaluates_J45 N) (g_X10_evaluates_J45 N) N x1 x2 x3 x4 σ))))))), (fun _ z => absurd z List.not_mem_nil)⟩) 108 ?_ ?_ <;> rfl⟩
  cases hn
def T_X10_settlesAll : List (Nat × Ent) := [(0, .bipush 27, 2, []), (2, .istore_n 1, 3, []), (3, .iload_n 1, 4, []), (4, .aload_n 0, 5, []), (5, .getfield 192, 8, []), (8, .if_icmp .ge 210, 11, [218]), (11, .aload_n 0, 12, []), (12, .getfield 48, 15, []), (15, .iload_n 1, 16, []), (16, .iaload, 17, []), (17, .istore_n 2, 18, []), (18, .aload_n 0, 19, []), (19, .getfield 51, 22, []), (22, .iload_n 1, 23, []), (23, .iaload, 24, []), (24, .istore_n 3, 25, []), (25, .aload_n 0, 26, []), (26, .getfield 57, 29, []), (29, .iload_n 2, 30, []), (30, .iaload, 31, []), (31, .aload_n 0, 32, []), (32, .getfield 57, 35, []), (35, .iload_n 3, 36, []), (36, .iaload, 37, []), (37, .if_icmp .le 12, 40, [49]), (40, .aload_n 0, 41, []), (41, .getfield 57, 44, []), (44, .iload_n 2, 45, []), (45, .iaload, 46, []), (46, .goto 9, 49, [55]), (49, .aload_n 0, 50, []), (50, .getfield 57, 53, []), (53, .iload_n 3, 54, []), (54, .iaload, 55, []), (55, .istore 4, 57, []), (57, .aload_n 0, 58, []), (58, .getfield 45, 61, []), (61, .iload_n 1, 62, []), (62, .iaload, 63, []), (63, .iconst 1, 64, []), (64, .if_icmp .ne 7, 67, [71]), (67, .iconst 0, 68, []), (68, .goto 4, 71, [72]), (71, .iconst 1, 72, []), (72, .istore 5, 74, []), (74, .aload_n 0, 75, []), (75, .getfield 45, 78, []), (78, .iload_n 1, 79, []), (79, .iaload, 80, []), (80, .iconst 1, 81, []), (81, .if_icmp .eq 13, 84, [94]), (84, .aload_n 0, 85, []), (85, .getfield 45, 88, []), (88, .iload_n 1, 89, []), (89, .iaload, 90, []), (90, .iconst 2, 91, []), (91, .if_icmp .ne 101, 94, [192]), (94, .aload_n 0, 95, []), (95, .getfield 60, 98, []), (98, .iload_n 1, 99, []), (99, .iaload, 100, []), (100, .iload 5, 102, []), (102, .if_icmp .ne 90, 105, [192]), (105, .aload_n 0, 106, []), (106, .getfield 57, 109, []), (109, .iload_n 2, 110, []), (110, .iaload, 111, []), (111, .aload_n 0, 112, []), (112, .getfield 57, 115, []), (115, .iload_n 3, 116, []), (116, .iaload, 117, []), (117, .if_icmp .ge 12, 120, [129]), (120, .aload_n 0, 121, []), (121, .getfield 57, 124, []), (124, .iload_n 2, 125, []), (125, .iaload, 126, []), (126, .goto 9, 129, [135]), (129, .aload_n 0, 130, []), (130, .getfield 57, 133, []), (133, .iload_n 3, 134, []), (134, .iaload, 135, []), (135, .istore 6, 137, []), (137, .aload_n 0, 138, []), (138, .getfield 60, 141, []), (141, .iload_n 2, 142, []), (142, .iaload, 143, []), (143, .iload 5, 145, []), (145, .if_icmp .ne 19, 148, [164]), (148, .aload_n 0, 149, []), (149, .getfield 60, 152, []), (152, .iload_n 3, 153, []), (153, .iaload, 154, []), (154, .iload 5, 156, []), (156, .if_icmp .ne 8, 159, [164]), (159, .iload 6, 161, []), (161, .goto 29, 164, [190]), (164, .aload_n 0, 165, []), (165, .getfield 60, 168, []), (168, .iload_n 2, 169, []), (169, .iaload, 170, []), (170, .iload 5, 172, []), (172, .if_icmp .ne 12, 175, [184]), (175, .aload_n 0, 176, []), (176, .getfield 57, 179, []), (179, .iload_n 2, 180, []), (180, .iaload, 181, []), (181, .goto 9, 184, [190]), (184, .aload_n 0, 185, []), (185, .getfield 57, 188, []), (188, .iload_n 3, 189, []), (189, .iaload, 190, []), (190, .istore 4, 192, []), (192, .aload_n 0, 193, []), (193, .getfield 57, 196, []), (196, .iload_n 1, 197, []), (197, .aload_n 0, 198, []), (198, .getfield 39, 201, []), (201, .aload_n 0, 202, []), (202, .getfield 45, 205, []), (205, .iload_n 1, 206, []), (206, .iaload, 207, []), (207, .iaload, 208, []), (208, .iload 4, 210, []), (210, .iadd, 211, []), (211, .iastore, 212, []), (212, .iinc 1 1, 215, []), (215, .goto (-212), 218, [3]), (218, .return_, 219, [])]
set_option maxRecDepth 200000 in
theorem tc_X10_settlesAll : T_X10_settlesAll.all (chk cX10_settlesAll) = true := by decide +kernel
def f_X10_settlesAll_J192 (N : Nat) (KB : Int32 → Wd → Option Wd) (KO218 : Wd → Option Wd) (x1 : Int32) (x4 : Int32) (σ : Wd) : Option Wd :=
  (xld σ 53 2048 x1).bind fun v14 => (xld σ 51 4 v14).bind fun v15 => (xst σ 57 2048 x1 (v15 + x4)).bind fun σ16 => KB (x1 + 1) σ16
def f_X10_settlesAll_J190 (N : Nat) (KB : Int32 → Wd → Option Wd) (KO218 : Wd → Option Wd) (x1 : Int32) (y0 : Int32) (σ : Wd) : Option Wd :=
  f_X10_settlesAll_J192 N KB KO218 x1 y0 σ
def f_X10_settlesAll_J164 (N : Nat) (KB : Int32 → Wd → Option Wd) (KO218 : Wd → Option Wd) (x1 : Int32) (x2 : Int32) (x3 : Int32) (x5 : Int32) (σ : Wd) : Option Wd :=
  (xld σ 58 2048 x2).bind fun v17 => if v17 = x5 then ((xld σ 57 2048 x2).bind fun v18 => f_X10_settlesAll_J190 N KB KO218 x1 v18 σ) else ((xld σ 57 2048 x3).bind fun v19 => f_X10_settlesAll_J190 N KB KO218 x1 v19 σ)
def f_X10_settlesAll_J135 (N : Nat) (KB : Int32 → Wd → Option Wd) (KO218 : Wd → Option Wd) (x1 : Int32) (x2 : Int32) (x3 : Int32) (x5 : Int32) (y0 : Int32) (σ : Wd) : Option Wd :=
  (xld σ 58 2048 x2).bind fun v12 => if v12 = x5 then ((xld σ 58 2048 x3).bind fun v13 => if v13 = x5 then (f_X10_settlesAll_J190 N KB KO218 x1 y0 σ) else (f_X10_settlesAll_J164 N KB KO218 x1 x2 x3 x5 σ)) else (f_X10_settlesAll_J164 N KB KO218 x1 x2 x3 x5 σ)
def f_X10_settlesAll_J94 (N : Nat) (KB : Int32 → Wd → Option Wd) (KO218 : Wd → Option Wd) (x1 : Int32) (x2 : Int32) (x3 : Int32) (x4 : Int32) (x5 : Int32) (σ : Wd) : Option Wd :=
  (xld σ 58 2048 x1).bind fun v8 => if v8 = x5 then ((xld σ 57 2048 x2).bind fun v9 => (xld σ 57 2048 x3).bind fun v10 => if v10 ≤ v9 then ((xld σ 57 2048 x3).bind fun v11 => f_X10_settlesAll_J135 N KB KO218 x1 x2 x3 x5 v11 σ) else ((xld σ 57 2048 x2).bind fun v20 => f_X10_settlesAll_J135 N KB KO218 x1 x2 x3 x5 v20 σ)) else (f_X10_settlesAll_J192 N KB KO218 x1 x4 σ)
def f_X10_settlesAll_J72 (N : Nat) (KB : Int32 → Wd → Option Wd) (KO218 : Wd → Option Wd) (x1 : Int32) (x2 : Int32) (x3 : Int32) (x4 : Int32) (y0 : Int32) (σ : Wd) : Option Wd :=
  (xld σ 53 2048 x1).bind fun v7 => if v7 = 1 then (f_X10_settlesAll_J94 N KB KO218 x1 x2 x3 x4 y0 σ) else ((xld σ 53 2048 x1).bind fun v21 => if v21 = 2 then (f_X10_settlesAll_J94 N KB KO218 x1 x2 x3 x4 y0 σ) else (f_X10_settlesAll_J192 N KB KO218 x1 x4 σ))
def f_X10_settlesAll_J55 (N : Nat) (KB : Int32 → Wd → Option Wd) (KO218 : Wd → Option Wd) (x1 : Int32) (x2 : Int32) (x3 : Int32) (y0 : Int32) (σ : Wd) : Option Wd :=
  (xld σ 53 2048 x1).bind fun v6 => if v6 = 1 then (f_X10_settlesAll_J72 N KB KO218 x1 x2 x3 y0 0 σ) else (f_X10_settlesAll_J72 N KB KO218 x1 x2 x3 y0 1 σ)
def f_X10_settlesAll_L3 (N : Nat) (KO218 : Wd → Option Wd) : Nat → Int32 → Wd → Option Wd
  | 0, _, _ => none
  | n + 1, x1, σ => if (σ.1 41 27) ≤ x1 then (KO218 σ) else ((xld σ 54 2048 x1).bind fun v1 => (xld σ 55 2048 x1).bind fun v2 => (xld σ 57 2048 v1).bind fun v3 => (xld σ 57 2048 v2).bind fun v4 => if v3 ≤ v4 then ((xld σ 57 2048 v2).bind fun v5 => f_X10_settlesAll_J55 N (f_X10_settlesAll_L3 N KO218 n) KO218 x1 v1 v2 v5 σ) else ((xld σ 57 2048 v1).bind fun v22 => f_X10_settlesAll_J55 N (f_X10_settlesAll_L3 N KO218 n) KO218 x1 v1 v2 v22 σ))
def f_X10_settlesAll_J218 (N : Nat) (σ : Wd) : Option Wd :=
  some σ
def f_X10_settlesAll (N : Nat) (σ : Wd) : Option Wd :=
  f_X10_settlesAll_L3 N (f_X10_settlesAll_J218 N) N 27 σ
def a_X10_settlesAll (N : Nat) : List Value → Wd → Option Wd := fun as σ => kSE 41 as (fun r0 => kS0 r0 (f_X10_settlesAll N σ)) (none)
def ct_X10_settlesAll (N : Nat) : List (Nat × Cal) := []
set_option maxRecDepth 200000 in
theorem md_X10_settlesAll (N : Nat) : MDOK T_X10_settlesAll ft_X10 lt_X10 (ct_X10_settlesAll N) cX10_settlesAll RX10 1 := ⟨tc_X10_settlesAll, fc_X10, lc_X10, (fun _ z => absurd z List.not_mem_nil)⟩
set_option maxRecDepth 200000 in
theorem g_X10_settlesAll_J192 (N : Nat) (KB : Int32 → Wd → Option Wd) (hKB : ∀ (x1 : Int32) (σ : Wd), GO cX10_settlesAll RX10 7 1 sc0 nI0 nJ0 some (KB x1 σ) 3 (mkp 0 7 [(0, .ref 41), (1, .int x1)]) [] σ) (KO218 : Wd → Option Wd) (hKO218 : ∀ (σ : Wd), GO cX10_settlesAll RX10 7 1 sc0 nI0 nJ0 some (KO218 σ) 218 (mkp 0 7 []) [] σ) (x1 : Int32) (x4 : Int32) (σ : Wd) : GO cX10_settlesAll RX10 7 1 sc0 nI0 nJ0 some (f_X10_settlesAll_J192 N KB KO218 x1 x4 σ) 192 (mkp 0 7 [(0, .ref 41), (1, .int x1), (4, .int x4)]) [] σ := by
  exact (by refine GO.to (md_X10_settlesAll N) (kl := [(3, fun vs st σ => kS0 st (kA 0 41 vs (kI 1 vs (fun x1 => KB x1 σ))))]) (List.forall_mem_cons.mpr ⟨fun vs st σ => go_kS0 (go_kA (fun h0 => go_kI (fun x1 h1 => GO.pat [(0, .ref 41), (1, .int x1)] ⟨h0, h1, trivial⟩ (hKB x1 σ)))), (fun _ z => absurd z List.not_mem_nil)⟩) 133 ?_ ?_ <;> rfl)
set_option maxRecDepth 200000 in
theorem g_X10_settlesAll_J190 (N : Nat) (KB : Int32 → Wd → Option Wd) (hKB : ∀ (x1 : Int32) (σ : Wd), GO cX10_settlesAll RX10 7 1 sc0 nI0 nJ0 some (KB x1 σ) 3 (mkp 0 7 [(0, .ref 41), (1, .int x1)]) [] σ) (KO218 : Wd → Option Wd) (hKO218 : ∀ (σ : Wd), GO cX10_settlesAll RX10 7 1 sc0 nI0 nJ0 some (KO218 σ) 218 (mkp 0 7 []) [] σ) (x1 : Int32) (y0 : Int32) (σ : Wd) : GO cX10_settlesAll RX10 7 1 sc0 nI0 nJ0 some (f_X10_settlesAll_J190 N KB KO218 x1 y0 σ) 190 (mkp 0 7 [(0, .ref 41), (1, .int x1)]) [.int y0] σ := by
  exact (by refine GO.to (md_X10_settlesAll N) (kl := [(192, fun vs st σ => kS0 st (kA 0 41 vs (kI 1 vs (fun x1 => kI 4 vs (fun x4 => f_X10_settlesAll_J192 N KB KO218 x1 x4 σ)))))]) (List.forall_mem_cons.mpr ⟨fun vs st σ => go_kS0 (go_kA (fun h0 => go_kI (fun x1 h1 => go_kI (fun x4 h4 => GO.pat [(0, .ref 41), (1, .int x1), (4, .int x4)] ⟨h0, h1, h4, trivial⟩ (g_X10_settlesAll_J192 N KB hKB KO218 hKO218 x1 x4 σ))))), (fun _ z => absurd z List.not_mem_nil)⟩) 133 ?_ ?_ <;> rfl)
set_option maxRecDepth 200000 in
theorem g_X10_settlesAll_J164 (N : Nat) (KB : Int32 → Wd → Option Wd) (hKB : ∀ (x1 : Int32) (σ : Wd), GO cX10_settlesAll RX10 7 1 sc0 nI0 nJ0 some (KB x1 σ) 3 (mkp 0 7 [(0, .ref 41), (1, .int x1)]) [] σ) (KO218 : Wd → Option Wd) (hKO218 : ∀ (σ : Wd), GO cX10_settlesAll RX10 7 1 sc0 nI0 nJ0 some (KO218 σ) 218 (mkp 0 7 []) [] σ) (x1 : Int32) (x2 : Int32) (x3 : Int32) (x5 : Int32) (σ : Wd) : GO cX10_settlesAll RX10 7 1 sc0 nI0 nJ0 some (f_X10_settlesAll_J164 N KB KO218 x1 x2 x3 x5 σ) 164 (mkp 0 7 [(0, .ref 41), (1, .int x1), (2, .int x2), (3, .int x3), (5, .int x5)]) [] σ := by
  exact (by refine GO.to (md_X10_settlesAll N) (kl := [(190, fun vs st σ => kSti st (fun y0 => kA 0 41 vs (kI 1 vs (fun x1 => f_X10_settlesAll_J190 N KB KO218 x1 y0 σ))))]) (List.forall_mem_cons.mpr ⟨fun vs st σ => go_kSti (fun y0 => go_kA (fun h0 => go_kI (fun x1 h1 => GO.pat [(0, .ref 41), (1, .int x1)] ⟨h0, h1, trivial⟩ (g_X10_settlesAll_J190 N KB hKB KO218 hKO218 x1 y0 σ)))), (fun _ z => absurd z List.not_mem_nil)⟩) 133 ?_ ?_ <;> rfl)
set_option maxRecDepth 200000 in
theorem g_X10_settlesAll_J135 (N : Nat) (KB : Int32 → Wd → Option Wd) (hKB : ∀ (x1 : Int32) (σ : Wd), GO cX10_settlesAll RX10 7 1 sc0 nI0 nJ0 some (KB x1 σ) 3 (mkp 0 7 [(0, .ref 41), (1, .int x1)]) [] σ) (KO218 : Wd → Option Wd) (hKO218 : ∀ (σ : Wd), GO cX10_settlesAll RX10 7 1 sc0 nI0 nJ0 some (KO218 σ) 218 (mkp 0 7 []) [] σ) (x1 : Int32) (x2 : Int32) (x3 : Int32) (x5 : Int32) (y0 : Int32) (σ : Wd) : GO cX10_settlesAll RX10 7 1 sc0 nI0 nJ0 some (f_X10_settlesAll_J135 N KB KO218 x1 x2 x3 x5 y0 σ) 135 (mkp 0 7 [(0, .ref 41), (1, .int x1), (2, .int x2), (3, .int x3), (5, .int x5)]) [.int y0] σ := by
  exact (by refine GO.to (md_X10_settlesAll N) (kl := [(190, fun vs st σ => kSti st (fun y0 => kA 0 41 vs (kI 1 vs (fun x1 => f_X10_settlesAll_J190 N KB KO218 x1 y0 σ)))), (164, fun vs st σ => kS0 st (kA 0 41 vs (kI 1 vs (fun x1 => kI 2 vs (fun x2 => kI 3 vs (fun x3 => kI 5 vs (fun x5 => f_X10_settlesAll_J164 N KB KO218 x1 x2 x3 x5 σ)))))))]) (List.forall_mem_cons.mpr ⟨fun vs st σ => go_kSti (fun y0 => go_kA (fun h0 => go_kI (fun x1 h1 => GO.pat [(0, .ref 41), (1, .int x1)] ⟨h0, h1, trivial⟩ (g_X10_settlesAll_J190 N KB hKB KO218 hKO218 x1 y0 σ)))), List.forall_mem_cons.mpr ⟨fun vs st σ => go_kS0 (go_kA (fun h0 => go_kI (fun x1 h1 => go_kI (fun x2 h2 => go_kI (fun x3 h3 => go_kI (fun x5 h5 => GO.pat [(0, .ref 41), (1, .int x1), (2, .int x2), (3, .int x3), (5, .int x5)] ⟨h0, h1, h2, h3, h5, trivial⟩ (g_X10_settlesAll_J164 N KB hKB KO218 hKO218 x1 x2 x3 x5 σ))))))), (fun _ z => absurd z List.not_mem_nil)⟩⟩) 133 ?_ ?_ <;> rfl)
set_option maxRecDepth 200000 in
theorem g_X10_settlesAll_J94 (N : Nat) (KB : Int32 → Wd → Option Wd) (hKB : ∀ (x1 : Int32) (σ : Wd), GO cX10_settlesAll RX10 7 1 sc0 nI0 nJ0 some (KB x1 σ) 3 (mkp 0 7 [(0, .ref 41), (1, .int x1)]) [] σ) (KO218 : Wd → Option Wd) (hKO218 : ∀ (σ : Wd), GO cX10_settlesAll RX10 7 1 sc0 nI0 nJ0 some (KO218 σ) 218 (mkp 0 7 []) [] σ) (x1 : Int32) (x2 : Int32) (x3 : Int32) (x4 : Int32) (x5 : Int32) (σ : Wd) : GO cX10_settlesAll RX10 7 1 sc0 nI0 nJ0 some (f_X10_settlesAll_J94 N KB KO218 x1 x2 x3 x4 x5 σ) 94 (mkp 0 7 [(0, .ref 41), (1, .int x1), (2, .int x2), (3, .int x3), (4, .int x4), (5, .int x5)]) [] σ := by
  exact (by refine GO.to (md_X10_settlesAll N) (kl := [(135, fun vs st σ => kSti st (fun y0 => kA 0 41 vs (kI 1 vs (fun x1 => kI 2 vs (fun x2 => kI 3 vs (fun x3 => kI 5 vs (fun x5 => f_X10_settlesAll_J135 N KB KO218 x1 x2 x3 x5 y0 σ))))))), (192, fun vs st σ => kS0 st (kA 0 41 vs (kI 1 vs (fun x1 => kI 4 vs (fun x4 => f_X10_settlesAll_J192 N KB KO218 x1 x4 σ)))))]) (List.forall_mem_cons.mpr ⟨fun vs st σ => go_kSti (fun y0 => go_kA (fun h0 => go_kI (fun x1 h1 => go_kI (fun x2 h2 => go_kI (fun x3 h3 => go_kI (fun x5 h5 => GO.pat [(0, .ref 41), (1, .int x1), (2, .int x2), (3, .int x3), (5, .int x5)] ⟨h0, h1, h2, h3, h5, trivial⟩ (g_X10_settlesAll_J135 N KB hKB KO218 hKO218 x1 x2 x3 x5 y0 σ))))))), List.forall_mem_cons.mpr ⟨fun vs st σ => go_kS0 (go_kA (fun h0 => go_kI (fun x1 h1 => go_kI (fun x4 h4 => GO.pat [(0, .ref 41), (1, .int x1), (4, .int x4)] ⟨h0, h1, h4, trivial⟩ (g_X10_settlesAll_J192 N KB hKB KO218 hKO218 x1 x4 σ))))), (fun _ z => absurd z List.not_mem_nil)⟩⟩) 133 ?_ ?_ <;> rfl)
set_option maxRecDepth 200000 in
theorem g_X10_settlesAll_J72 (N : Nat) (KB : Int32 → Wd → Option Wd) (hKB : ∀ (x1 : Int32) (σ : Wd), GO cX10_settlesAll RX10 7 1 sc0 nI0 nJ0 some (KB x1 σ) 3 (mkp 0 7 [(0, .ref 41), (1, .int x1)]) [] σ) (KO218 : Wd → Option Wd) (hKO218 : ∀ (σ : Wd), GO cX10_settlesAll RX10 7 1 sc0 nI0 nJ0 some (KO218 σ) 218 (mkp 0 7 []) [] σ) (x1 : Int32) (x2 : Int32) (x3 : Int32) (x4 : Int32) (y0 : Int32) (σ : Wd) : GO cX10_settlesAll RX10 7 1 sc0 nI0 nJ0 some (f_X10_settlesAll_J72 N KB KO218 x1 x2 x3 x4 y0 σ) 72 (mkp 0 7 [(0, .ref 41), (1, .int x1), (2, .int x2), (3, .int x3), (4, .int x4)]) [.int y0] σ := by
  exact (by refine GO.to (md_X10_settlesAll N) (kl := [(94, fun vs st σ => kS0 st (kA 0 41 vs (kI 1 vs (fun x1 => kI 2 vs (fun x2 => kI 3 vs (fun x3 => kI 4 vs (fun x4 => kI 5 vs (fun x5 => f_X10_settlesAll_J94 N KB KO218 x1 x2 x3 x4 x5 σ)))))))), (192, fun vs st σ => kS0 st (kA 0 41 vs (kI 1 vs (fun x1 => kI 4 vs (fun x4 => f_X10_settlesAll_J192 N KB KO218 x1 x4 σ)))))]) (List.forall_mem_cons.mpr ⟨fun vs st σ => go_kS0 (go_kA (fun h0 => go_kI (fun x1 h1 => go_kI (fun x2 h2 => go_kI (fun x3 h3 => go_kI (fun x4 h4 => go_kI (fun x5 h5 => GO.pat [(0, .ref 41), (1, .int x1), (2, .int x2), (3, .int x3), (4, .int x4), (5, .int x5)] ⟨h0, h1, h2, h3, h4, h5, trivial⟩ (g_X10_settlesAll_J94 N KB hKB KO218 hKO218 x1 x2 x3 x4 x5 σ)))))))), List.forall_mem_cons.mpr ⟨fun vs st σ => go_kS0 (go_kA (fun h0 => go_kI (fun x1 h1 => go_kI (fun x4 h4 => GO.pat [(0, .ref 41), (1, .int x1), (4, .int x4)] ⟨h0, h1, h4, trivial⟩ (g_X10_settlesAll_J192 N KB hKB KO218 hKO218 x1 x4 σ))))), (fun _ z => absurd z List.not_mem_nil)⟩⟩) 133 ?_ ?_ <;> rfl)
set_option maxRecDepth 200000 in
theorem g_X10_settlesAll_J55 (N : Nat) (KB : Int32 → Wd → Option Wd) (hKB : ∀ (x1 : Int32) (σ : Wd), GO cX10_settlesAll RX10 7 1 sc0 nI0 nJ0 some (KB x1 σ) 3 (mkp 0 7 [(0, .ref 41), (1, .int x1)]) [] σ) (KO218 : Wd → Option Wd) (hKO218 : ∀ (σ : Wd), GO cX10_settlesAll RX10 7 1 sc0 nI0 nJ0 some (KO218 σ) 218 (mkp 0 7 []) [] σ) (x1 : Int32) (x2 : Int32) (x3 : Int32) (y0 : Int32) (σ : Wd) : GO cX10_settlesAll RX10 7 1 sc0 nI0 nJ0 some (f_X10_settlesAll_J55 N KB KO218 x1 x2 x3 y0 σ) 55 (mkp 0 7 [(0, .ref 41), (1, .int x1), (2, .int x2), (3, .int x3)]) [.int y0] σ := by
  exact (by refine GO.to (md_X10_settlesAll N) (kl := [(72, fun vs st σ => kSti st (fun y0 => kA 0 41 vs (kI 1 vs (fun x1 => kI 2 vs (fun x2 => kI 3 vs (fun x3 => kI 4 vs (fun x4 => f_X10_settlesAll_J72 N KB KO218 x1 x2 x3 x4 y0 σ)))))))]) (List.forall_mem_cons.mpr ⟨fun vs st σ => go_kSti (fun y0 => go_kA (fun h0 => go_kI (fun x1 h1 => go_kI (fun x2 h2 => go_kI (fun x3 h3 => go_kI (fun x4 h4 => GO.pat [(0, .ref 41), (1, .int x1), (2, .int x2), (3, .int x3), (4, .int x4)] ⟨h0, h1, h2, h3, h4, trivial⟩ (g_X10_settlesAll_J72 N KB hKB KO218 hKO218 x1 x2 x3 x4 y0 σ))))))), (fun _ z => absurd z List.not_mem_nil)⟩) 133 ?_ ?_ <;> rfl)
set_option maxRecDepth 200000 in
theorem g_X10_settlesAll_L3 (N : Nat) (KO218 : Wd → Option Wd) (hKO218 : ∀ (σ : Wd), GO cX10_settlesAll RX10 7 1 sc0 nI0 nJ0 some (KO218 σ) 218 (mkp 0 7 []) [] σ) : ∀ (n : Nat), ∀ (x1 : Int32) (σ : Wd), GO cX10_settlesAll RX10 7 1 sc0 nI0 nJ0 some (f_X10_settlesAll_L3 N KO218 n x1 σ) 3 (mkp 0 7 [(0, .ref 41), (1, .int x1)]) [] σ
  | 0, x1, σ => GO.none
  | n + 1, x1, σ => by
    exact (by refine GO.to (md_X10_settlesAll N) (kl := [(218, fun vs st σ => kS0 st (KO218 σ)), (55, fun vs st σ => kSti st (fun y0 => kA 0 41 vs (kI 1 vs (fun x1 => kI 2 vs (fun x2 => kI 3 vs (fun x3 => f_X10_settlesAll_J55 N (f_X10_settlesAll_L3 N KO218 n) KO218 x1 x2 x3 y0 σ))))))]) (List.forall_mem_cons.mpr ⟨fun vs st σ => go_kS0 (GO.pat [] trivial (hKO218 σ)), List.forall_mem_cons.mpr ⟨fun vs st σ => go_kSti (fun y0 => go_kA (fun h0 => go_kI (fun x1 h1 => go_kI (fun x2 h2 => go_kI (fun x3 h3 => GO.pat [(0, .ref 41), (1, .int x1), (2, .int x2), (3, .int x3)] ⟨h0, h1, h2, h3, trivial⟩ (g_X10_settlesAll_J55 N (f_X10_settlesAll_L3 N KO218 n) (g_X10_settlesAll_L3 N KO218 hKO218 n) KO218 hKO218 x1 x2 x3 y0 σ)))))), (fun _ z => absurd z List.not_mem_nil)⟩⟩) 133 ?_ ?_ <;> rfl)
set_option maxRecDepth 200000 in
theorem g_X10_settlesAll_J218 (N : Nat) (σ : Wd) : GO cX10_settlesAll RX10 7 1 sc0 nI0 nJ0 some (f_X10_settlesAll_J218 N σ) 218 (mkp 0 7 []) [] σ := by
  exact (by refine GO.to (md_X10_settlesAll N) (kl := []) ((fun _ z => absurd z List.not_mem_nil)) 133 ?_ ?_ <;> rfl)
set_option maxRecDepth 200000 in
theorem C_X10_settlesAll (N : Nat) : CTV 1 yX10_settlesAll cX10_settlesAll 7 none (a_X10_settlesAll N) := by
  refine CTV.of (own := RX10) (by decide) rfl (fun as σ r h => ?_)
  unfold a_X10_settlesAll at h
  rcases kSE_s h with ⟨r0, rfl, h0⟩ | hn
  ·
    obtain ⟨rfl, h9⟩ := kS0_s h0
    exact ⟨Nat.le_of_ble_eq_true rfl, by refine GO.to (md_X10_settlesAll N) (kl := [(3, fun vs st σ => kS0 st (kA 0 41 vs (kI 1 vs (fun x1 => f_X10_settlesAll_L3 N (f_X10_settlesAll_J218 N) N x1 σ))))]) (List.forall_mem_cons.mpr ⟨fun vs st σ => go_kS0 (go_kA (fun h0 => go_kI (fun x1 h1 => GO.pat [(0, .ref 41), (1, .int x1)] ⟨h0, h1, trivial⟩ (g_X10_settlesAll_L3 N (f_X10_settlesAll_J218 N) (g_X10_settlesAll_J218 N) N x1 σ)))), (fun _ z => absurd z List.not_mem_nil)⟩) 133 ?_ ?_ <;> rfl⟩
  cases hn
def T_X10_meets : List (Nat × Ent) := [(0, .iload_n 1, 1, []), (1, .aload_n 0, 2, []), (2, .getfield 332, 5, []), (5, .if_icmp .gt 19, 8, [24]), (8, .iload_n 1, 9, []), (9, .aload_n 0, 10, []), (10, .getfield 332, 13, []), (13, .if_icmp .ne 21, 16, [34]), (16, .iload_n 2, 17, []), (17, .aload_n 0, 18, []), (18, .getfield 335, 21, []), (21, .if_icmp .ge 13, 24, [34]), (24, .aload_n 0, 25, []), (25, .iload_n 1, 26, []), (26, .putfield 332, 29, []), (29, .aload_n 0, 30, []), (30, .iload_n 2, 31, []), (31, .putfield 335, 34, []), (34, .return_, 35, [])]
set_option maxRecDepth 200000 in
theorem tc_X10_meets : T_X10_meets.all (chk cX10_meets) = true := by decide +kernel
def f_X10_meets (N : Nat) (a1 : Int32) (a2 : Int32) (σ : Wd) : Option Wd :=
  if (σ.1 41 39) < a1 then (let σ1 : Wd := sF σ 41 39 a1
  let σ2 : Wd := sF σ1 41 40 a2
  some σ2) else (if a1 = (σ.1 41 39) then (if (σ.1 41 40) ≤ a2 then (some σ) else (let σ3 : Wd := sF σ 41 39 a1
  let σ4 : Wd := sF σ3 41 40 a2
  some σ4)) else (some σ))
def a_X10_meets (N : Nat) : List Value → Wd → Option Wd := fun as σ => kSE 41 as (fun r0 => kSI r0 (fun b1 r1 => kSI r1 (fun b2 r2 => kS0 r2 (f_X10_meets N b1 b2 σ)))) (none)
def ct_X10_meets (N : Nat) : List (Nat × Cal) := []
set_option maxRecDepth 200000 in
theorem md_X10_meets (N : Nat) : MDOK T_X10_meets ft_X10 lt_X10 (ct_X10_meets N) cX10_meets RX10 1 := ⟨tc_X10_meets, fc_X10, lc_X10, (fun _ z => absurd z List.not_mem_nil)⟩
set_option maxRecDepth 200000 in
theorem C_X10_meets (N : Nat) : CTV 1 yX10_meets cX10_meets 3 none (a_X10_meets N) := by
  refine CTV.of (own := RX10) (by decide) rfl (fun as σ r h => ?_)
  unfold a_X10_meets at h
  rcases kSE_s h with ⟨r0, rfl, h0⟩ | hn
  ·
    obtain ⟨b1, r1, rfl, h1⟩ := kSI_s h0
    obtain ⟨b2, r2, rfl, h2⟩ := kSI_s h1
    obtain ⟨rfl, h9⟩ := kS0_s h2
    exact ⟨Nat.le_of_ble_eq_true rfl, by refine GO.to (md_X10_meets N) (kl := []) ((fun _ z => absurd z List.not_mem_nil)) 24 ?_ ?_ <;> rfl⟩
  cases hn
def T_X10_unlike : List (Nat × Ent) := [(0, .iconst 0, 1, []), (1, .istore_n 1, 2, []), (2, .iconst 0, 3, []), (3, .istore_n 2, 4, []), (4, .iload_n 2, 5, []), (5, .bipush 40, 7, []), (7, .if_icmp .ge 89, 10, [96]), (10, .iconst 0, 11, []), (11, .istore_n 3, 12, []), (12, .iconst 0, 13, []), (13, .istore 4, 15, []), (15, .iload 4, 17, []), (17, .aload_n 0, 18, []), (18, .getfield 100, 21, []), (21, .if_icmp .ge 57, 24, [78]), (24, .iconst 0, 25, []), (25, .istore 5, 27, []), (27, .iload 5, 29, []), (29, .aload_n 0, 30, []), (30, .getfield 21, 33, []), (33, .iload 4, 35, []), (35, .iaload, 36, []), (36, .if_icmp .ge 36, 39, [72]), (39, .iload_n 3, 40, []), (40, .ifCond .ne 20, 43, [60]), (43, .aload_n 0, 44, []), (44, .getfield 18, 47, []), (47, .bipush 8, 49, []), (49, .iload 4, 51, []), (51, .imul, 52, []), (52, .iload 5, 54, []), (54, .iadd, 55, []), (55, .iaload, 56, []), (56, .iload_n 2, 57, []), (57, .if_icmp .ne 7, 60, [64]), (60, .iconst 1, 61, []), (61, .goto 4, 64, [65]), (64, .iconst 0, 65, []), (65, .istore_n 3, 66, []), (66, .iinc 5 1, 69, []), (69, .goto (-42), 72, [27]), (72, .iinc 4 1, 75, []), (75, .goto (-60), 78, [15]), (78, .iload_n 1, 79, []), (79, .iload_n 3, 80, []), (80, .ifCond .eq 7, 83, [87]), (83, .iconst 1, 84, []), (84, .goto 4, 87, [88]), (87, .iconst 0, 88, []), (88, .iadd, 89, []), (89, .istore_n 1, 90, []), (90, .iinc 2 1, 93, []), (93, .goto (-89), 96, [4]), (96, .iload_n 1, 97, []), (97, .ireturn, 98, [])]
set_option maxRecDepth 200000 in
theorem tc_X10_unlike : T_X10_unlike.all (chk cX10_unlike) = true := by decide +kernel
def f_X10_unlike_L27 (N : Nat) (KO72 : Int32 → Int32 → Int32 → Int32 → Wd → Option (Int32 × Wd)) : Nat → Int32 → Int32 → Int32 → Int32 → Int32 → Wd → Option (Int32 × Wd)
  | 0, _, _, _, _, _, _ => none
  | n + 1, x1, x2, x3, x4, x5, σ => (xld σ 45 12 x4).bind fun v1 => if v1 ≤ x5 then (KO72 x1 x2 x3 x4 σ) else (if x3 = 0 then ((xld σ 44 96 ((8 * x4) + x5)).bind fun v2 => if v2 = x2 then (f_X10_unlike_L27 N KO72 n x1 x2 1 x4 (x5 + 1) σ) else (f_X10_unlike_L27 N KO72 n x1 x2 0 x4 (x5 + 1) σ)) else (f_X10_unlike_L27 N KO72 n x1 x2 1 x4 (x5 + 1) σ))
def f_X10_unlike_J72 (N : Nat) (KB : Int32 → Int32 → Int32 → Int32 → Wd → Option (Int32 × Wd)) (KO78 : Int32 → Int32 → Int32 → Wd → Option (Int32 × Wd)) (x1 : Int32) (x2 : Int32) (x3 : Int32) (x4 : Int32) (σ : Wd) : Option (Int32 × Wd) :=
  KB x1 x2 x3 (x4 + 1) σ
def f_X10_unlike_L15 (N : Nat) (KO78 : Int32 → Int32 → Int32 → Wd → Option (Int32 × Wd)) : Nat → Int32 → Int32 → Int32 → Int32 → Wd → Option (Int32 × Wd)
  | 0, _, _, _, _, _ => none
  | n + 1, x1, x2, x3, x4, σ => if (σ.1 41 4) ≤ x4 then (KO78 x1 x2 x3 σ) else (f_X10_unlike_L27 N (f_X10_unlike_J72 N (f_X10_unlike_L15 N KO78 n) KO78) N x1 x2 x3 x4 0 σ)
def f_X10_unlike_J78 (N : Nat) (KB : Int32 → Int32 → Wd → Option (Int32 × Wd)) (KO96 : Int32 → Wd → Option (Int32 × Wd)) (x1 : Int32) (x2 : Int32) (x3 : Int32) (σ : Wd) : Option (Int32 × Wd) :=
  if x3 = 0 then (KB (x1 + 0) (x2 + 1) σ) else (KB (x1 + 1) (x2 + 1) σ)
def f_X10_unlike_L4 (N : Nat) (KO96 : Int32 → Wd → Option (Int32 × Wd)) : Nat → Int32 → Int32 → Wd → Option (Int32 × Wd)
  | 0, _, _, _ => none
  | n + 1, x1, x2, σ => if 40 ≤ x2 then (KO96 x1 σ) else (f_X10_unlike_L15 N (f_X10_unlike_J78 N (f_X10_unlike_L4 N KO96 n) KO96) N x1 x2 0 0 σ)
def f_X10_unlike_J96 (N : Nat) (x1 : Int32) (σ : Wd) : Option (Int32 × Wd) :=
  some (x1, σ)
def f_X10_unlike (N : Nat) (σ : Wd) : Option (Int32 × Wd) :=
  f_X10_unlike_L4 N (f_X10_unlike_J96 N) N 0 0 σ
def a_X10_unlike (N : Nat) : List Value → Wd → Option (Int32 × Wd) := fun as σ => kSE 41 as (fun r0 => kS0 r0 (f_X10_unlike N σ)) (none)
def ct_X10_unlike (N : Nat) : List (Nat × Cal) := []
set_option maxRecDepth 200000 in
theorem md_X10_unlike (N : Nat) : MDOK T_X10_unlike ft_X10 lt_X10 (ct_X10_unlike N) cX10_unlike RX10 1 := ⟨tc_X10_unlike, fc_X10, lc_X10, (fun _ z => absurd z List.not_mem_nil)⟩
set_option maxRecDepth 200000 in
theorem g_X10_unlike_L27 (N : Nat) (KO72 : Int32 → Int32 → Int32 → Int32 → Wd → Option (Int32 × Wd)) (hKO72 : ∀ (x1 : Int32) (x2 : Int32) (x3 : Int32) (x4 : Int32) (σ : Wd), GO cX10_unlike RX10 6 1 sc0 rI nJ0 nV0 (KO72 x1 x2 x3 x4 σ) 72 (mkp 0 6 [(0, .ref 41), (1, .int x1), (2, .int x2), (3, .int x3), (4, .int x4)]) [] σ) : ∀ (n : Nat), ∀ (x1 : Int32) (x2 : Int32) (x3 : Int32) (x4 : Int32) (x5 : Int32) (σ : Wd), GO cX10_unlike RX10 6 1 sc0 rI nJ0 nV0 (f_X10_unlike_L27 N KO72 n x1 x2 x3 x4 x5 σ) 27 (mkp 0 6 [(0, .ref 41), (1, .int x1), (2, .int x2), (3, .int x3), (4, .int x4), (5, .int x5)]) [] σ
  | 0, x1, x2, x3, x4, x5, σ => GO.none
  | n + 1, x1, x2, x3, x4, x5, σ => by
    exact (by refine GO.to (md_X10_unlike N) (kl := [(72, fun vs st σ => kS0 st (kA 0 41 vs (kI 1 vs (fun x1 => kI 2 vs (fun x2 => kI 3 vs (fun x3 => kI 4 vs (fun x4 => KO72 x1 x2 x3 x4 σ))))))), (27, fun vs st σ => kS0 st (kA 0 41 vs (kI 1 vs (fun x1 => kI 2 vs (fun x2 => kI 3 vs (fun x3 => kI 4 vs (fun x4 => kI 5 vs (fun x5 => f_X10_unlike_L27 N KO72 n x1 x2 x3 x4 x5 σ))))))))]) (List.forall_mem_cons.mpr ⟨fun vs st σ => go_kS0 (go_kA (fun h0 => go_kI (fun x1 h1 => go_kI (fun x2 h2 => go_kI (fun x3 h3 => go_kI (fun x4 h4 => GO.pat [(0, .ref 41), (1, .int x1), (2, .int x2), (3, .int x3), (4, .int x4)] ⟨h0, h1, h2, h3, h4, trivial⟩ (hKO72 x1 x2 x3 x4 σ))))))), List.forall_mem_cons.mpr ⟨fun vs st σ => go_kS0 (go_kA (fun h0 => go_kI (fun x1 h1 => go_kI (fun x2 h2 => go_kI (fun x3 h3 => go_kI (fun x4 h4 => go_kI (fun x5 h5 => GO.pat [(0, .ref 41), (1, .int x1), (2, .int x2), (3, .int x3), (4, .int x4), (5, .int x5)] ⟨h0, h1, h2, h3, h4, h5, trivial⟩ (g_X10_unlike_L27 N KO72 hKO72 n x1 x2 x3 x4 x5 σ)))))))), (fun _ z => absurd z List.not_mem_nil)⟩⟩) 60 ?_ ?_ <;> rfl)
set_option maxRecDepth 200000 in
theorem g_X10_unlike_J72 (N : Nat) (KB : Int32 → Int32 → Int32 → Int32 → Wd → Option (Int32 × Wd)) (hKB : ∀ (x1 : Int32) (x2 : Int32) (x3 : Int32) (x4 : Int32) (σ : Wd), GO cX10_unlike RX10 6 1 sc0 rI nJ0 nV0 (KB x1 x2 x3 x4 σ) 15 (mkp 0 6 [(0, .ref 41), (1, .int x1), (2, .int x2), (3, .int x3), (4, .int x4)]) [] σ) (KO78 : Int32 → Int32 → Int32 → Wd → Option (Int32 × Wd)) (hKO78 : ∀ (x1 : Int32) (x2 : Int32) (x3 : Int32) (σ : Wd), GO cX10_unlike RX10 6 1 sc0 rI nJ0 nV0 (KO78 x1 x2 x3 σ) 78 (mkp 0 6 [(0, .ref 41), (1, .int x1), (2, .int x2), (3, .int x3)]) [] σ) (x1 : Int32) (x2 : Int32) (x3 : Int32) (x4 : Int32) (σ : Wd) : GO cX10_unlike RX10 6 1 sc0 rI nJ0 nV0 (f_X10_unlike_J72 N KB KO78 x1 x2 x3 x4 σ) 72 (mkp 0 6 [(0, .ref 41), (1, .int x1), (2, .int x2), (3, .int x3), (4, .int x4)]) [] σ := by
  exact (by refine GO.to (md_X10_unlike N) (kl := [(15, fun vs st σ => kS0 st (kA 0 41 vs (kI 1 vs (fun x1 => kI 2 vs (fun x2 => kI 3 vs (fun x3 => kI 4 vs (fun x4 => KB x1 x2 x3 x4 σ)))))))]) (List.forall_mem_cons.mpr ⟨fun vs st σ => go_kS0 (go_kA (fun h0 => go_kI (fun x1 h1 => go_kI (fun x2 h2 => go_kI (fun x3 h3 => go_kI (fun x4 h4 => GO.pat [(0, .ref 41), (1, .int x1), (2, .int x2), (3, .int x3), (4, .int x4)] ⟨h0, h1, h2, h3, h4, trivial⟩ (hKB x1 x2 x3 x4 σ))))))), (fun _ z => absurd z List.not_mem_nil)⟩) 60 ?_ ?_ <;> rfl)
set_option maxRecDepth 200000 in
theorem g_X10_unlike_L15 (N : Nat) (KO78 : Int32 → Int32 → Int32 → Wd → Option (Int32 × Wd)) (hKO78 : ∀ (x1 : Int32) (x2 : Int32) (x3 : Int32) (σ : Wd), GO cX10_unlike RX10 6 1 sc0 rI nJ0 nV0 (KO78 x1 x2 x3 σ) 78 (mkp 0 6 [(0, .ref 41), (1, .int x1), (2, .int x2), (3, .int x3)]) [] σ) : ∀ (n : Nat), ∀ (x1 : Int32) (x2 : Int32) (x3 : Int32) (x4 : Int32) (σ : Wd), GO cX10_unlike RX10 6 1 sc0 rI nJ0 nV0 (f_X10_unlike_L15 N KO78 n x1 x2 x3 x4 σ) 15 (mkp 0 6 [(0, .ref 41), (1, .int x1), (2, .int x2), (3, .int x3), (4, .int x4)]) [] σ
  | 0, x1, x2, x3, x4, σ => GO.none
  | n + 1, x1, x2, x3, x4, σ => by
    exact (by refine GO.to (md_X10_unlike N) (kl := [(78, fun vs st σ => kS0 st (kA 0 41 vs (kI 1 vs (fun x1 => kI 2 vs (fun x2 => kI 3 vs (fun x3 => KO78 x1 x2 x3 σ)))))), (27, fun vs st σ => kS0 st (kA 0 41 vs (kI 1 vs (fun x1 => kI 2 vs (fun x2 => kI 3 vs (fun x3 => kI 4 vs (fun x4 => kI 5 vs (fun x5 => f_X10_unlike_L27 N (f_X10_unlike_J72 N (f_X10_unlike_L15 N KO78 n) KO78) N x1 x2 x3 x4 x5 σ))))))))]) (List.forall_mem_cons.mpr ⟨fun vs st σ => go_kS0 (go_kA (fun h0 => go_kI (fun x1 h1 => go_kI (fun x2 h2 => go_kI (fun x3 h3 => GO.pat [(0, .ref 41), (1, .int x1), (2, .int x2), (3, .int x3)] ⟨h0, h1, h2, h3, trivial⟩ (hKO78 x1 x2 x3 σ)))))), List.forall_mem_cons.mpr ⟨fun vs st σ => go_kS0 (go_kA (fun h0 => go_kI (fun x1 h1 => go_kI (fun x2 h2 => go_kI (fun x3 h3 => go_kI (fun x4 h4 => go_kI (fun x5 h5 => GO.pat [(0, .ref 41), (1, .int x1), (2, .int x2), (3, .int x3), (4, .int x4), (5, .int x5)] ⟨h0, h1, h2, h3, h4, h5, trivial⟩ (g_X10_unlike_L27 N (f_X10_unlike_J72 N (f_X10_unlike_L15 N KO78 n) KO78) (g_X10_unlike_J72 N (f_X10_unlike_L15 N KO78 n) (g_X10_unlike_L15 N KO78 hKO78 n) KO78 hKO78) N x1 x2 x3 x4 x5 σ)))))))), (fun _ z => absurd z List.not_mem_nil)⟩⟩) 60 ?_ ?_ <;> rfl)
set_option maxRecDepth 200000 in
theorem g_X10_unlike_J78 (N : Nat) (KB : Int32 → Int32 → Wd → Option (Int32 × Wd)) (hKB : ∀ (x1 : Int32) (x2 : Int32) (σ : Wd), GO cX10_unlike RX10 6 1 sc0 rI nJ0 nV0 (KB x1 x2 σ) 4 (mkp 0 6 [(0, .ref 41), (1, .int x1), (2, .int x2)]) [] σ) (KO96 : Int32 → Wd → Option (Int32 × Wd)) (hKO96 : ∀ (x1 : Int32) (σ : Wd), GO cX10_unlike RX10 6 1 sc0 rI nJ0 nV0 (KO96 x1 σ) 96 (mkp 0 6 [(1, .int x1)]) [] σ) (x1 : Int32) (x2 : Int32) (x3 : Int32) (σ : Wd) : GO cX10_unlike RX10 6 1 sc0 rI nJ0 nV0 (f_X10_unlike_J78 N KB KO96 x1 x2 x3 σ) 78 (mkp 0 6 [(0, .ref 41), (1, .int x1), (2, .int x2), (3, .int x3)]) [] σ := by
  exact (by refine GO.to (md_X10_unlike N) (kl := [(4, fun vs st σ => kS0 st (kA 0 41 vs (kI 1 vs (fun x1 => kI 2 vs (fun x2 => KB x1 x2 σ)))))]) (List.forall_mem_cons.mpr ⟨fun vs st σ => go_kS0 (go_kA (fun h0 => go_kI (fun x1 h1 => go_kI (fun x2 h2 => GO.pat [(0, .ref 41), (1, .int x1), (2, .int x2)] ⟨h0, h1, h2, trivial⟩ (hKB x1 x2 σ))))), (fun _ z => absurd z List.not_mem_nil)⟩) 60 ?_ ?_ <;> rfl)
set_option maxRecDepth 200000 in
theorem g_X10_unlike_L4 (N : Nat) (KO96 : Int32 → Wd → Option (Int32 × Wd)) (hKO96 : ∀ (x1 : Int32) (σ : Wd), GO cX10_unlike RX10 6 1 sc0 rI nJ0 nV0 (KO96 x1 σ) 96 (mkp 0 6 [(1, .int x1)]) [] σ) : ∀ (n : Nat), ∀ (x1 : Int32) (x2 : Int32) (σ : Wd), GO cX10_unlike RX10 6 1 sc0 rI nJ0 nV0 (f_X10_unlike_L4 N KO96 n x1 x2 σ) 4 (mkp 0 6 [(0, .ref 41), (1, .int x1), (2, .int x2)]) [] σ
  | 0, x1, x2, σ => GO.none
  | n + 1, x1, x2, σ => by
    exact (by refine GO.to (md_X10_unlike N) (kl := [(96, fun vs st σ => kS0 st (kI 1 vs (fun x1 => KO96 x1 σ))), (15, fun vs st σ => kS0 st (kA 0 41 vs (kI 1 vs (fun x1 => kI 2 vs (fun x2 => kI 3 vs (fun x3 => kI 4 vs (fun x4 => f_X10_unlike_L15 N (f_X10_unlike_J78 N (f_X10_unlike_L4 N KO96 n) KO96) N x1 x2 x3 x4 σ)))))))]) (List.forall_mem_cons.mpr ⟨fun vs st σ => go_kS0 (go_kI (fun x1 h1 => GO.pat [(1, .int x1)] ⟨h1, trivial⟩ (hKO96 x1 σ))), List.forall_mem_cons.mpr ⟨fun vs st σ => go_kS0 (go_kA (fun h0 => go_kI (fun x1 h1 => go_kI (fun x2 h2 => go_kI (fun x3 h3 => go_kI (fun x4 h4 => GO.pat [(0, .ref 41), (1, .int x1), (2, .int x2), (3, .int x3), (4, .int x4)] ⟨h0, h1, h2, h3, h4, trivial⟩ (g_X10_unlike_L15 N (f_X10_unlike_J78 N (f_X10_unlike_L4 N KO96 n) KO96) (g_X10_unlike_J78 N (f_X10_unlike_L4 N KO96 n) (g_X10_unlike_L4 N KO96 hKO96 n) KO96 hKO96) N x1 x2 x3 x4 σ))))))), (fun _ z => absurd z List.not_mem_nil)⟩⟩) 60 ?_ ?_ <;> rfl)
set_option maxRecDepth 200000 in
theorem g_X10_unlike_J96 (N : Nat) (x1 : Int32) (σ : Wd) : GO cX10_unlike RX10 6 1 sc0 rI nJ0 nV0 (f_X10_unlike_J96 N x1 σ) 96 (mkp 0 6 [(1, .int x1)]) [] σ := by
  exact (by refine GO.to (md_X10_unlike N) (kl := []) ((fun _ z => absurd z List.not_mem_nil)) 60 ?_ ?_ <;> rfl)
set_option maxRecDepth 200000 in
theorem C_X10_unlike (N : Nat) : CTI 1 yX10_unlike cX10_unlike 6 (some .int) (a_X10_unlike N) := by
  refine CTI.of (own := RX10) (by decide) rfl (fun as σ r h => ?_)
  unfold a_X10_unlike at h
  rcases kSE_s h with ⟨r0, rfl, h0⟩ | hn
  ·
    obtain ⟨rfl, h9⟩ := kS0_s h0
    exact ⟨Nat.le_of_ble_eq_true rfl, by refine GO.to (md_X10_unlike N) (kl := [(4, fun vs st σ => kS0 st (kA 0 41 vs (kI 1 vs (fun x1 => kI 2 vs (fun x2 => f_X10_unlike_L4 N (f_X10_unlike_J96 N) N x1 x2 σ)))))]) (List.forall_mem_cons.mpr ⟨fun vs st σ => go_kS0 (go_kA (fun h0 => go_kI (fun x1 h1 => go_kI (fun x2 h2 => GO.pat [(0, .ref 41), (1, .int x1), (2, .int x2)] ⟨h0, h1, h2, trivial⟩ (g_X10_unlike_L4 N (f_X10_unlike_J96 N) (g_X10_unlike_J96 N) N x1 x2 σ))))), (fun _ z => absurd z List.not_mem_nil)⟩) 60 ?_ ?_ <;> rfl⟩
  cases hn
def T_X10_isPlan : List (Nat × Ent) := [(0, .iload_n 1, 1, []), (1, .i2l, 2, []), (2, .lconst 0, 3, []), (3, .aload_n 0, 4, []), (4, .getfield 100, 7, []), (7, .iconst 1, 8, []), (8, .isub, 9, []), (9, .i2l, 10, []), (10, .invokestatic 104, 13, []), (13, .ireturn, 14, [])]
set_option maxRecDepth 200000 in
theorem tc_X10_isPlan : T_X10_isPlan.all (chk cX10_isPlan) = true := by decide +kernel
def f_X10_isPlan (N : Nat) (a1 : Int32) (σ : Wd) : Option (Int32 × Wd) :=
  (f_X10_in N (Int32.toInt64 a1) 0 (Int32.toInt64 ((σ.1 41 4) - 1)) σ).bind fun p1 => rZ p1.1 p1.2
def a_X10_isPlan (N : Nat) : List Value → Wd → Option (Int32 × Wd) := fun as σ => kSE 41 as (fun r0 => kSI r0 (fun b1 r1 => kS0 r1 (f_X10_isPlan N b1 σ))) (none)
set_option maxRecDepth 200000 in
theorem k_X10_104 : calchk RX10 104 3 0 yX10_in cX10_in 6 (some .boolean) = true := by decide +kernel
def ct_X10_isPlan (N : Nat) : List (Nat × Cal) := [(104, 3, 0, .inl (a_X10_in N))]
set_option maxRecDepth 200000 in
theorem md_X10_isPlan (N : Nat) : MDOK T_X10_isPlan ft_X10 lt_X10 (ct_X10_isPlan N) cX10_isPlan RX10 2 := ⟨tc_X10_isPlan, fc_X10, lc_X10, List.forall_mem_cons.mpr ⟨Or.inl ⟨yX10_in, cX10_in, 6, (some .boolean), 1, k_X10_104, Nat.le_of_ble_eq_true rfl, C_X10_in N⟩, (fun _ z => absurd z List.not_mem_nil)⟩⟩
set_option maxRecDepth 200000 in
theorem C_X10_isPlan (N : Nat) : CTI 2 yX10_isPlan cX10_isPlan 2 (some .boolean) (a_X10_isPlan N) := by
  refine CTZ.of (own := RX10) (by decide) rfl (fun as σ r h => ?_)
  unfold a_X10_isPlan at h
  rcases kSE_s h with ⟨r0, rfl, h0⟩ | hn
  ·
    obtain ⟨b1, r1, rfl, h1⟩ := kSI_s h0
    obtain ⟨rfl, h9⟩ := kS0_s h1
    exact ⟨Nat.le_of_ble_eq_true rfl, by refine GO.to (md_X10_isPlan N) (kl := []) ((fun _ z => absurd z List.not_mem_nil)) 15 ?_ ?_ <;> rfl⟩
  cases hn
def T_X10_width : List (Nat × Ent) := [(0, .aload_n 0, 1, []), (1, .getfield 18, 4, []), (4, .bipush 8, 6, []), (6, .iload_n 1, 7, []), (7, .imul, 8, []), (8, .aload_n 0, 9, []), (9, .getfield 21, 12, []), (12, .iload_n 1, 13, []), (13, .iaload, 14, []), (14, .invokestatic 108, 17, []), (17, .ireturn, 18, [])]
set_option maxRecDepth 200000 in
theorem tc_X10_width : T_X10_width.all (chk cX10_width) = true := by decide +kernel
def f_X10_width (N : Nat) (a1 : Int32) (σ : Wd) : Option (Int32 × Wd) :=
  (xld σ 45 12 a1).bind fun v1 => (f_X10_widthOf N 44 96 (8 * a1) v1 σ).bind fun p2 => some (p2.1, p2.2)
def a_X10_width (N : Nat) : List Value → Wd → Option (Int32 × Wd) := fun as σ => kSE 41 as (fun r0 => kSI r0 (fun b1 r1 => kS0 r1 (f_X10_width N b1 σ))) (none)
set_option maxRecDepth 200000 in
theorem k_X10_108 : calchk RX10 108 3 0 yX10_widthOf cX10_widthOf 5 (some .int) = true := by decide +kernel
def ct_X10_width (N : Nat) : List (Nat × Cal) := [(108, 3, 0, .inl (a_X10_widthOf N))]
set_option maxRecDepth 200000 in
theorem md_X10_width (N : Nat) : MDOK T_X10_width ft_X10 lt_X10 (ct_X10_width N) cX10_width RX10 2 := ⟨tc_X10_width, fc_X10, lc_X10, List.forall_mem_cons.mpr ⟨Or.inl ⟨yX10_widthOf, cX10_widthOf, 5, (some .int), 1, k_X10_108, Nat.le_of_ble_eq_true rfl, C_X10_widthOf N⟩, (fun _ z => absurd z List.not_mem_nil)⟩⟩
set_option maxRecDepth 200000 in
theorem C_X10_width (N : Nat) : CTI 2 yX10_width cX10_width 2 (some .int) (a_X10_width N) := by
  refine CTI.of (own := RX10) (by decide) rfl (fun as σ r h => ?_)
  unfold a_X10_width at h
  rcases kSE_s h with ⟨r0, rfl, h0⟩ | hn
  ·
    obtain ⟨b1, r1, rfl, h1⟩ := kSI_s h0
    obtain ⟨rfl, h9⟩ := kS0_s h1
    exact ⟨Nat.le_of_ble_eq_true rfl, by refine GO.to (md_X10_width N) (kl := []) ((fun _ z => absurd z List.not_mem_nil)) 16 ?_ ?_ <;> rfl⟩
  cases hn
def T_X10_feed : List (Nat × Ent) := [(0, .iload_n 1, 1, []), (1, .i2l, 2, []), (2, .ldc2_w 112, 5, []), (5, .ldc2_w 114, 8, []), (8, .invokestatic 104, 11, []), (11, .ifCond .ne 5, 14, [16]), (14, .iconst (-1), 15, []), (15, .ireturn, 16, []), (16, .aload_n 0, 17, []), (17, .getfield 116, 20, []), (20, .bipush 40, 22, []), (22, .if_icmp .ne 6, 25, [28]), (25, .bipush (-3), 27, []), (27, .ireturn, 28, []), (28, .aload_n 0, 29, []), (29, .getfield 24, 32, []), (32, .aload_n 0, 33, []), (33, .getfield 116, 36, []), (36, .iload_n 1, 37, []), (37, .iastore, 38, []), (38, .aload_n 0, 39, []), (39, .dup, 40, []), (40, .getfield 116, 43, []), (43, .iconst 1, 44, []), (44, .iadd, 45, []), (45, .putfield 116, 48, []), (48, .aload_n 0, 49, []), (49, .getfield 116, 52, []), (52, .ireturn, 53, [])]
set_option maxRecDepth 200000 in
theorem tc_X10_feed : T_X10_feed.all (chk cX10_feed) = true := by decide +kernel
def f_X10_feed (N : Nat) (a1 : Int32) (σ : Wd) : Option (Int32 × Wd) :=
  (f_X10_in N (Int32.toInt64 a1) 32 126 σ).bind fun p1 => if p1.1 = 0 then (some ((-1), p1.2)) else (if (p1.2.1 41 8) = 40 then (some ((-3), p1.2)) else ((xst p1.2 46 40 (p1.2.1 41 8) a1).bind fun σ2 => let σ3 : Wd := sF σ2 41 8 ((σ2.1 41 8) + 1)
  some (σ3.1 41 8, σ3)))
def a_X10_feed (N : Nat) : List Value → Wd → Option (Int32 × Wd) := fun as σ => kSE 41 as (fun r0 => kSI r0 (fun b1 r1 => kS0 r1 (f_X10_feed N b1 σ))) (none)
def ct_X10_feed (N : Nat) : List (Nat × Cal) := [(104, 3, 0, .inl (a_X10_in N))]
set_option maxRecDepth 200000 in
theorem md_X10_feed (N : Nat) : MDOK T_X10_feed ft_X10 lt_X10 (ct_X10_feed N) cX10_feed RX10 2 := ⟨tc_X10_feed, fc_X10, lc_X10, List.forall_mem_cons.mpr ⟨Or.inl ⟨yX10_in, cX10_in, 6, (some .boolean), 1, k_X10_104, Nat.le_of_ble_eq_true rfl, C_X10_in N⟩, (fun _ z => absurd z List.not_mem_nil)⟩⟩
set_option maxRecDepth 200000 in
theorem C_X10_feed (N : Nat) : CTI 2 yX10_feed cX10_feed 2 (some .int) (a_X10_feed N) := by
  refine CTI.of (own := RX10) (by decide) rfl (fun as σ r h => ?_)
  unfold a_X10_feed at h
  rcases kSE_s h with ⟨r0, rfl, h0⟩ | hn
  ·
    obtain ⟨b1, r1, rfl, h1⟩ := kSI_s h0
    obtain ⟨rfl, h9⟩ := kS0_s h1
    exact ⟨Nat.le_of_ble_eq_true rfl, by refine GO.to (md_X10_feed N) (kl := []) ((fun _ z => absurd z List.not_mem_nil)) 34 ?_ ?_ <;> rfl⟩
  cases hn
def T_X10_readsName : List (Nat × Ent) := [(0, .aload_n 0, 1, []), (1, .iconst 0, 2, []), (2, .putfield 119, 5, []), (5, .aload_n 0, 6, []), (6, .iconst 0, 7, []), (7, .putfield 122, 10, []), (10, .aload_n 0, 11, []), (11, .getfield 122, 14, []), (14, .iconst 4, 15, []), (15, .if_icmp .ge 56, 18, [71]), (18, .aload_n 0, 19, []), (19, .invokevirtual 125, 22, []), (22, .i2l, 23, []), (23, .ldc2_w 129, 26, []), (26, .ldc2_w 131, 29, []), (29, .invokestatic 104, 32, []), (32, .ifCond .eq 39, 35, [71]), (35, .aload_n 0, 36, []), (36, .getfield 27, 39, []), (39, .aload_n 0, 40, []), (40, .getfield 122, 43, []), (43, .aload_n 0, 44, []), (44, .invokevirtual 125, 47, []), (47, .iastore, 48, []), (48, .aload_n 0, 49, []), (49, .dup, 50, []), (50, .getfield 122, 53, []), (53, .iconst 1, 54, []), (54, .iadd, 55, []), (55, .putfield 122, 58, []), (58, .aload_n 0, 59, []), (59, .dup, 60, []), (60, .getfield 119, 63, []), (63, .iconst 1, 64, []), (64, .iadd, 65, []), (65, .putfield 119, 68, []), (68, .goto (-58), 71, [10]), (71, .return_, 72, [])]
set_option maxRecDepth 200000 in
theorem tc_X10_readsName : T_X10_readsName.all (chk cX10_readsName) = true := by decide +kernel
def f_X10_readsName_L10 (N : Nat) (KO71 : Wd → Option Wd) : Nat → Wd → Option Wd
  | 0, _ => none
  | n + 1, σ => if 4 ≤ (σ.1 41 9) then (KO71 σ) else ((f_X10_here N σ).bind fun p3 => (f_X10_in N (Int32.toInt64 p3.1) 97 122 p3.2).bind fun p4 => if p4.1 = 0 then (KO71 p4.2) else ((f_X10_here N p4.2).bind fun p5 => (xst p5.2 47 4 (p4.2.1 41 9) p5.1).bind fun σ6 => let σ7 : Wd := sF σ6 41 9 ((σ6.1 41 9) + 1)
  let σ8 : Wd := sF σ7 41 11 ((σ7.1 41 11) + 1)
  f_X10_readsName_L10 N KO71 n σ8))
def f_X10_readsName_J71 (N : Nat) (σ : Wd) : Option Wd :=
  some σ
def f_X10_readsName (N : Nat) (σ : Wd) : Option Wd :=
  let σ1 : Wd := sF σ 41 11 0
  let σ2 : Wd := sF σ1 41 9 0
  f_X10_readsName_L10 N (f_X10_readsName_J71 N) N σ2
def a_X10_readsName (N : Nat) : List Value → Wd → Option Wd := fun as σ => kSE 41 as (fun r0 => kS0 r0 (f_X10_readsName N σ)) (none)
set_option maxRecDepth 200000 in
theorem k_X10_125 : calchk RX10 125 1 10 yX10_here cX10_here 1 (some .int) = true := by decide +kernel
def ct_X10_readsName (N : Nat) : List (Nat × Cal) := [(125, 1, 10, .inl (a_X10_here N)), (104, 3, 0, .inl (a_X10_in N))]
set_option maxRecDepth 200000 in
theorem md_X10_readsName (N : Nat) : MDOK T_X10_readsName ft_X10 lt_X10 (ct_X10_readsName N) cX10_readsName RX10 2 := ⟨tc_X10_readsName, fc_X10, lc_X10, List.forall_mem_cons.mpr ⟨Or.inl ⟨yX10_here, cX10_here, 1, (some .int), 1, k_X10_125, Nat.le_of_ble_eq_true rfl, C_X10_here N⟩, List.forall_mem_cons.mpr ⟨Or.inl ⟨yX10_in, cX10_in, 6, (some .boolean), 1, k_X10_104, Nat.le_of_ble_eq_true rfl, C_X10_in N⟩, (fun _ z => absurd z List.not_mem_nil)⟩⟩⟩
set_option maxRecDepth 200000 in
theorem g_X10_readsName_L10 (N : Nat) (KO71 : Wd → Option Wd) (hKO71 : ∀ (σ : Wd), GO cX10_readsName RX10 1 2 sc0 nI0 nJ0 some (KO71 σ) 71 (mkp 0 1 []) [] σ) : ∀ (n : Nat), ∀ (σ : Wd), GO cX10_readsName RX10 1 2 sc0 nI0 nJ0 some (f_X10_readsName_L10 N KO71 n σ) 10 (mkp 0 1 [(0, .ref 41)]) [] σ
  | 0, σ => GO.none
  | n + 1, σ => by
    exact (by refine GO.to (md_X10_readsName N) (kl := [(71, fun vs st σ => kS0 st (KO71 σ)), (10, fun vs st σ => kS0 st (kA 0 41 vs (f_X10_readsName_L10 N KO71 n σ)))]) (List.forall_mem_cons.mpr ⟨fun vs st σ => go_kS0 (GO.pat [] trivial (hKO71 σ)), List.forall_mem_cons.mpr ⟨fun vs st σ => go_kS0 (go_kA (fun h0 => GO.pat [(0, .ref 41)] ⟨h0, trivial⟩ (g_X10_readsName_L10 N KO71 hKO71 n σ))), (fun _ z => absurd z List.not_mem_nil)⟩⟩) 43 ?_ ?_ <;> rfl)
set_option maxRecDepth 200000 in
theorem g_X10_readsName_J71 (N : Nat) (σ : Wd) : GO cX10_readsName RX10 1 2 sc0 nI0 nJ0 some (f_X10_readsName_J71 N σ) 71 (mkp 0 1 []) [] σ := by
  exact (by refine GO.to (md_X10_readsName N) (kl := []) ((fun _ z => absurd z List.not_mem_nil)) 43 ?_ ?_ <;> rfl)
set_option maxRecDepth 200000 in
theorem C_X10_readsName (N : Nat) : CTV 2 yX10_readsName cX10_readsName 1 none (a_X10_readsName N) := by
  refine CTV.of (own := RX10) (by decide) rfl (fun as σ r h => ?_)
  unfold a_X10_readsName at h
  rcases kSE_s h with ⟨r0, rfl, h0⟩ | hn
  ·
    obtain ⟨rfl, h9⟩ := kS0_s h0
    exact ⟨Nat.le_of_ble_eq_true rfl, by refine GO.to (md_X10_readsName N) (kl := [(10, fun vs st σ => kS0 st (kA 0 41 vs (f_X10_readsName_L10 N (f_X10_readsName_J71 N) N σ)))]) (List.forall_mem_cons.mpr ⟨fun vs st σ => go_kS0 (go_kA (fun h0 => GO.pat [(0, .ref 41)] ⟨h0, trivial⟩ (g_X10_readsName_L10 N (f_X10_readsName_J71 N) (g_X10_readsName_J71 N) N σ))), (fun _ z => absurd z List.not_mem_nil)⟩) 43 ?_ ?_ <;> rfl⟩
  cases hn
def T_X10_areBlocks : List (Nat × Ent) := [(0, .aload_n 0, 1, []), (1, .iconst 0, 2, []), (2, .putfield 133, 5, []), (5, .iconst 0, 6, []), (6, .istore_n 1, 7, []), (7, .iconst 1, 8, []), (8, .istore_n 2, 9, []), (9, .iload_n 2, 10, []), (10, .ifCond .eq 165, 13, [175]), (13, .aload_n 0, 14, []), (14, .getfield 133, 17, []), (17, .ifCond .eq 14, 20, [31]), (20, .aload_n 0, 21, []), (21, .getfield 119, 24, []), (24, .aload_n 0, 25, []), (25, .getfield 116, 28, []), (28, .if_icmp .ge 147, 31, [175]), (31, .aload_n 0, 32, []), (32, .getfield 133, 35, []), (35, .bipush 8, 37, []), (37, .if_icmp .ge 19, 40, [56]), (40, .iload_n 1, 41, []), (41, .bipush 12, 43, []), (43, .if_icmp .ge 13, 46, [56]), (46, .aload_n 0, 47, []), (47, .invokevirtual 125, 50, []), (50, .invokestatic 136, 53, []), (53, .goto 4, 56, [57]), (56, .iconst (-1), 57, []), (57, .istore_n 3, 58, []), (58, .iload_n 3, 59, []), (59, .ifCond .lt 7, 62, [66]), (62, .iconst 1, 63, []), (63, .goto 4, 66, [67]), (66, .iconst 0, 67, []), (67, .istore_n 2, 68, []), (68, .aload_n 0, 69, []), (69, .dup, 70, []), (70, .getfield 119, 73, []), (73, .iload_n 2, 74, []), (74, .ifCond .eq 7, 77, [81]), (77, .iconst 1, 78, []), (78, .goto 4, 81, [82]), (81, .iconst 0, 82, []), (82, .iadd, 83, []), (83, .putfield 119, 86, []), (86, .aload_n 0, 87, []), (87, .invokevirtual 125, 90, []), (90, .bipush 48, 92, []), (92, .isub, 93, []), (93, .istore 4, 95, []), (95, .iload_n 2, 96, []), (96, .ifCond .eq 29, 99, [125]), (99, .iload 4, 101, []), (101, .i2l, 102, []), (102, .lconst 1, 103, []), (103, .ldc2_w 140, 106, []), (106, .invokestatic 104, 109, []), (109, .ifCond .eq 16, 112, [125]), (112, .iload_n 1, 113, []), (113, .iload 4, 115, []), (115, .iadd, 116, []), (116, .bipush 12, 118, []), (118, .if_icmp .gt 7, 121, [125]), (121, .iconst 1, 122, []), (122, .goto 4, 125, [126]), (125, .iconst 0, 126, []), (126, .istore_n 2, 127, []), (127, .iload_n 2, 128, []), (128, .ifCond .eq 44, 131, [172]), (131, .aload_n 0, 132, []), (132, .dup, 133, []), (133, .getfield 119, 136, []), (136, .iconst 1, 137, []), (137, .iadd, 138, []), (138, .putfield 119, 141, []), (141, .aload_n 0, 142, []), (142, .getfield 30, 145, []), (145, .aload_n 0, 146, []), (146, .getfield 133, 149, []), (149, .bipush 10, 151, []), (151, .iload_n 3, 152, []), (152, .imul, 153, []), (153, .iload 4, 155, []), (155, .iadd, 156, []), (156, .iastore, 157, []), (157, .aload_n 0, 158, []), (158, .dup, 159, []), (159, .getfield 133, 162, []), (162, .iconst 1, 163, []), (163, .iadd, 164, []), (164, .putfield 133, 167, []), (167, .iload_n 1, 168, []), (168, .iload 4, 170, []), (170, .iadd, 171, []), (171, .istore_n 1, 172, []), (172, .goto (-163), 175, [9]), (175, .iload_n 2, 176, []), (176, .ireturn, 177, [])]
set_option maxRecDepth 200000 in
theorem tc_X10_areBlocks : T_X10_areBlocks.all (chk cX10_areBlocks) = true := by decide +kernel
def f_X10_areBlocks_J126 (N : Nat) (KB : Int32 → Int32 → Wd → Option (Int32 × Wd)) (KO175 : Int32 → Wd → Option (Int32 × Wd)) (x1 : Int32) (x3 : Int32) (x4 : Int32) (y0 : Int32) (σ : Wd) : Option (Int32 × Wd) :=
  if y0 = 0 then (KB x1 y0 σ) else (let σ4 : Wd := sF σ 41 11 ((σ.1 41 11) + 1)
  (xst σ4 48 8 (σ4.1 41 10) ((10 * x3) + x4)).bind fun σ5 => let σ6 : Wd := sF σ5 41 10 ((σ5.1 41 10) + 1)
  KB (x1 + x4) y0 σ6)
def f_X10_areBlocks_J125 (N : Nat) (KB : Int32 → Int32 → Wd → Option (Int32 × Wd)) (KO175 : Int32 → Wd → Option (Int32 × Wd)) (x1 : Int32) (x3 : Int32) (x4 : Int32) (σ : Wd) : Option (Int32 × Wd) :=
  f_X10_areBlocks_J126 N KB KO175 x1 x3 x4 0 σ
def f_X10_areBlocks_J82 (N : Nat) (KB : Int32 → Int32 → Wd → Option (Int32 × Wd)) (KO175 : Int32 → Wd → Option (Int32 × Wd)) (x1 : Int32) (x2 : Int32) (x3 : Int32) (y1 : Int32) (y2 : Int32) (σ : Wd) : Option (Int32 × Wd) :=
  let σ2 : Wd := sF σ 41 11 (y1 + y2)
  (f_X10_here N σ2).bind fun p3 => if x2 = 0 then (f_X10_areBlocks_J125 N KB KO175 x1 x3 (p3.1 - 48) p3.2) else ((f_X10_in N (Int32.toInt64 (p3.1 - 48)) 1 6 p3.2).bind fun p7 => if p7.1 = 0 then (f_X10_areBlocks_J125 N KB KO175 x1 x3 (p3.1 - 48) p7.2) else (if 12 < (x1 + (p3.1 - 48)) then (f_X10_areBlocks_J125 N KB KO175 x1 x3 (p3.1 - 48) p7.2) else (f_X10_areBlocks_J126 N KB KO175 x1 x3 (p3.1 - 48) 1 p7.2)))
def f_X10_areBlocks_J67 (N : Nat) (KB : Int32 → Int32 → Wd → Option (Int32 × Wd)) (KO175 : Int32 → Wd → Option (Int32 × Wd)) (x1 : Int32) (x3 : Int32) (y0 : Int32) (σ : Wd) : Option (Int32 × Wd) :=
  if y0 = 0 then (f_X10_areBlocks_J82 N KB KO175 x1 y0 x3 (σ.1 41 11) 0 σ) else (f_X10_areBlocks_J82 N KB KO175 x1 y0 x3 (σ.1 41 11) 1 σ)
def f_X10_areBlocks_J57 (N : Nat) (KB : Int32 → Int32 → Wd → Option (Int32 × Wd)) (KO175 : Int32 → Wd → Option (Int32 × Wd)) (x1 : Int32) (y0 : Int32) (σ : Wd) : Option (Int32 × Wd) :=
  if y0 < 0 then (f_X10_areBlocks_J67 N KB KO175 x1 y0 0 σ) else (f_X10_areBlocks_J67 N KB KO175 x1 y0 1 σ)
def f_X10_areBlocks_J56 (N : Nat) (KB : Int32 → Int32 → Wd → Option (Int32 × Wd)) (KO175 : Int32 → Wd → Option (Int32 × Wd)) (x1 : Int32) (σ : Wd) : Option (Int32 × Wd) :=
  f_X10_areBlocks_J57 N KB KO175 x1 (-1) σ
def f_X10_areBlocks_J31 (N : Nat) (KB : Int32 → Int32 → Wd → Option (Int32 × Wd)) (KO175 : Int32 → Wd → Option (Int32 × Wd)) (x1 : Int32) (σ : Wd) : Option (Int32 × Wd) :=
  if 8 ≤ (σ.1 41 10) then (f_X10_areBlocks_J56 N KB KO175 x1 σ) else (if 12 ≤ x1 then (f_X10_areBlocks_J56 N KB KO175 x1 σ) else ((f_X10_here N σ).bind fun p8 => (f_X10_kindOf N p8.1 p8.2).bind fun p9 => f_X10_areBlocks_J57 N KB KO175 x1 p9.1 p9.2))
def f_X10_areBlocks_L9 (N : Nat) (KO175 : Int32 → Wd → Option (Int32 × Wd)) : Nat → Int32 → Int32 → Wd → Option (Int32 × Wd)
  | 0, _, _, _ => none
  | n + 1, x1, x2, σ => if x2 = 0 then (KO175 x2 σ) else (if (σ.1 41 10) = 0 then (f_X10_areBlocks_J31 N (f_X10_areBlocks_L9 N KO175 n) KO175 x1 σ) else (if (σ.1 41 8) ≤ (σ.1 41 11) then (KO175 x2 σ) else (f_X10_areBlocks_J31 N (f_X10_areBlocks_L9 N KO175 n) KO175 x1 σ)))
def f_X10_areBlocks_J175 (N : Nat) (x2 : Int32) (σ : Wd) : Option (Int32 × Wd) :=
  rZ x2 σ
def f_X10_areBlocks (N : Nat) (σ : Wd) : Option (Int32 × Wd) :=
  let σ1 : Wd := sF σ 41 10 0
  f_X10_areBlocks_L9 N (f_X10_areBlocks_J175 N) N 0 1 σ1
def a_X10_areBlocks (N : Nat) : List Value → Wd → Option (Int32 × Wd) := fun as σ => kSE 41 as (fun r0 => kS0 r0 (f_X10_areBlocks N σ)) (none)
set_option maxRecDepth 200000 in
theorem k_X10_136 : calchk RX10 136 1 0 yX10_kindOf cX10_kindOf 1 (some .int) = true := by decide +kernel
def ct_X10_areBlocks (N : Nat) : List (Nat × Cal) := [(125, 1, 10, .inl (a_X10_here N)), (104, 3, 0, .inl (a_X10_in N)), (136, 1, 0, .inl (a_X10_kindOf N))]
set_option maxRecDepth 200000 in
theorem md_X10_areBlocks (N : Nat) : MDOK T_X10_areBlocks ft_X10 lt_X10 (ct_X10_areBlocks N) cX10_areBlocks RX10 2 := ⟨tc_X10_areBlocks, fc_X10, lc_X10, List.forall_mem_cons.mpr ⟨Or.inl ⟨yX10_here, cX10_here, 1, (some .int), 1, k_X10_125, Nat.le_of_ble_eq_true rfl, C_X10_here N⟩, List.forall_mem_cons.mpr ⟨Or.inl ⟨yX10_in, cX10_in, 6, (some .boolean), 1, k_X10_104, Nat.le_of_ble_eq_true rfl, C_X10_in N⟩, List.forall_mem_cons.mpr ⟨Or.inl ⟨yX10_kindOf, cX10_kindOf, 1, (some .int), 1, k_X10_136, Nat.le_of_ble_eq_true rfl, C_X10_kindOf N⟩, (fun _ z => absurd z List.not_mem_nil)⟩⟩⟩⟩
set_option maxRecDepth 200000 in
theorem g_X10_areBlocks_J126 (N : Nat) (KB : Int32 → Int32 → Wd → Option (Int32 × Wd)) (hKB : ∀ (x1 : Int32) (x2 : Int32) (σ : Wd), GO cX10_areBlocks RX10 5 2 sc0 rZ nJ0 nV0 (KB x1 x2 σ) 9 (mkp 0 5 [(0, .ref 41), (1, .int x1), (2, .int x2)]) [] σ) (KO175 : Int32 → Wd → Option (Int32 × Wd)) (hKO175 : ∀ (x2 : Int32) (σ : Wd), GO cX10_areBlocks RX10 5 2 sc0 rZ nJ0 nV0 (KO175 x2 σ) 175 (mkp 0 5 [(2, .int x2)]) [] σ) (x1 : Int32) (x3 : Int32) (x4 : Int32) (y0 : Int32) (σ : Wd) : GO cX10_areBlocks RX10 5 2 sc0 rZ nJ0 nV0 (f_X10_areBlocks_J126 N KB KO175 x1 x3 x4 y0 σ) 126 (mkp 0 5 [(0, .ref 41), (1, .int x1), (3, .int x3), (4, .int x4)]) [.int y0] σ := by
  exact (by refine GO.to (md_X10_areBlocks N) (kl := [(9, fun vs st σ => kS0 st (kA 0 41 vs (kI 1 vs (fun x1 => kI 2 vs (fun x2 => KB x1 x2 σ)))))]) (List.forall_mem_cons.mpr ⟨fun vs st σ => go_kS0 (go_kA (fun h0 => go_kI (fun x1 h1 => go_kI (fun x2 h2 => GO.pat [(0, .ref 41), (1, .int x1), (2, .int x2)] ⟨h0, h1, h2, trivial⟩ (hKB x1 x2 σ))))), (fun _ z => absurd z List.not_mem_nil)⟩) 104 ?_ ?_ <;> rfl)
set_option maxRecDepth 200000 in
theorem g_X10_areBlocks_J125 (N : Nat) (KB : Int32 → Int32 → Wd → Option (Int32 × Wd)) (hKB : ∀ (x1 : Int32) (x2 : Int32) (σ : Wd), GO cX10_areBlocks RX10 5 2 sc0 rZ nJ0 nV0 (KB x1 x2 σ) 9 (mkp 0 5 [(0, .ref 41), (1, .int x1), (2, .int x2)]) [] σ) (KO175 : Int32 → Wd → Option (Int32 × Wd)) (hKO175 : ∀ (x2 : Int32) (σ : Wd), GO cX10_areBlocks RX10 5 2 sc0 rZ nJ0 nV0 (KO175 x2 σ) 175 (mkp 0 5 [(2, .int x2)]) [] σ) (x1 : Int32) (x3 : Int32) (x4 : Int32) (σ : Wd) : GO cX10_areBlocks RX10 5 2 sc0 rZ nJ0 nV0 (f_X10_areBlocks_J125 N KB KO175 x1 x3 x4 σ) 125 (mkp 0 5 [(0, .ref 41), (1, .int x1), (3, .int x3), (4, .int x4)]) [] σ := by
  exact (by refine GO.to (md_X10_areBlocks N) (kl := [(126, fun vs st σ => kSti st (fun y0 => kA 0 41 vs (kI 1 vs (fun x1 => kI 3 vs (fun x3 => kI 4 vs (fun x4 => f_X10_areBlocks_J126 N KB KO175 x1 x3 x4 y0 σ))))))]) (List.forall_mem_cons.mpr ⟨fun vs st σ => go_kSti (fun y0 => go_kA (fun h0 => go_kI (fun x1 h1 => go_kI (fun x3 h3 => go_kI (fun x4 h4 => GO.pat [(0, .ref 41), (1, .int x1), (3, .int x3), (4, .int x4)] ⟨h0, h1, h3, h4, trivial⟩ (g_X10_areBlocks_J126 N KB hKB KO175 hKO175 x1 x3 x4 y0 σ)))))), (fun _ z => absurd z List.not_mem_nil)⟩) 104 ?_ ?_ <;> rfl)
set_option maxRecDepth 200000 in
theorem g_X10_areBlocks_J82 (N : Nat) (KB : Int32 → Int32 → Wd → Option (Int32 × Wd)) (hKB : ∀ (x1 : Int32) (x2 : Int32) (σ : Wd), GO cX10_areBlocks RX10 5 2 sc0 rZ nJ0 nV0 (KB x1 x2 σ) 9 (mkp 0 5 [(0, .ref 41), (1, .int x1), (2, .int x2)]) [] σ) (KO175 : Int32 → Wd → Option (Int32 × Wd)) (hKO175 : ∀ (x2 : Int32) (σ : Wd), GO cX10_areBlocks RX10 5 2 sc0 rZ nJ0 nV0 (KO175 x2 σ) 175 (mkp 0 5 [(2, .int x2)]) [] σ) (x1 : Int32) (x2 : Int32) (x3 : Int32) (y1 : Int32) (y2 : Int32) (σ : Wd) : GO cX10_areBlocks RX10 5 2 sc0 rZ nJ0 nV0 (f_X10_areBlocks_J82 N KB KO175 x1 x2 x3 y1 y2 σ) 82 (mkp 0 5 [(0, .ref 41), (1, .int x1), (2, .int x2), (3, .int x3)]) [.int y2, .int y1, .ref 41] σ := by
  exact (by refine GO.to (md_X10_areBlocks N) (kl := [(125, fun vs st σ => kS0 st (kA 0 41 vs (kI 1 vs (fun x1 => kI 3 vs (fun x3 => kI 4 vs (fun x4 => f_X10_areBlocks_J125 N KB KO175 x1 x3 x4 σ)))))), (126, fun vs st σ => kSti st (fun y0 => kA 0 41 vs (kI 1 vs (fun x1 => kI 3 vs (fun x3 => kI 4 vs (fun x4 => f_X10_areBlocks_J126 N KB KO175 x1 x3 x4 y0 σ))))))]) (List.forall_mem_cons.mpr ⟨fun vs st σ => go_kS0 (go_kA (fun h0 => go_kI (fun x1 h1 => go_kI (fun x3 h3 => go_kI (fun x4 h4 => GO.pat [(0, .ref 41), (1, .int x1), (3, .int x3), (4, .int x4)] ⟨h0, h1, h3, h4, trivial⟩ (g_X10_areBlocks_J125 N KB hKB KO175 hKO175 x1 x3 x4 σ)))))), List.forall_mem_cons.mpr ⟨fun vs st σ => go_kSti (fun y0 => go_kA (fun h0 => go_kI (fun x1 h1 => go_kI (fun x3 h3 => go_kI (fun x4 h4 => GO.pat [(0, .ref 41), (1, .int x1), (3, .int x3), (4, .int x4)] ⟨h0, h1, h3, h4, trivial⟩ (g_X10_areBlocks_J126 N KB hKB KO175 hKO175 x1 x3 x4 y0 σ)))))), (fun _ z => absurd z List.not_mem_nil)⟩⟩) 104 ?_ ?_ <;> rfl)
set_option maxRecDepth 200000 in
theorem g_X10_areBlocks_J67 (N : Nat) (KB : Int32 → Int32 → Wd → Option (Int32 × Wd)) (hKB : ∀ (x1 : Int32) (x2 : Int32) (σ : Wd), GO cX10_areBlocks RX10 5 2 sc0 rZ nJ0 nV0 (KB x1 x2 σ) 9 (mkp 0 5 [(0, .ref 41), (1, .int x1), (2, .int x2)]) [] σ) (KO175 : Int32 → Wd → Option (Int32 × Wd)) (hKO175 : ∀ (x2 : Int32) (σ : Wd), GO cX10_areBlocks RX10 5 2 sc0 rZ nJ0 nV0 (KO175 x2 σ) 175 (mkp 0 5 [(2, .int x2)]) [] σ) (x1 : Int32) (x3 : Int32) (y0 : Int32) (σ : Wd) : GO cX10_areBlocks RX10 5 2 sc0 rZ nJ0 nV0 (f_X10_areBlocks_J67 N KB KO175 x1 x3 y0 σ) 67 (mkp 0 5 [(0, .ref 41), (1, .int x1), (3, .int x3)]) [.int y0] σ := by
  exact (by refine GO.to (md_X10_areBlocks N) (kl := [(82, fun vs st σ => kStaii 41 st (fun y1 y2 => kA 0 41 vs (kI 1 vs (fun x1 => kI 2 vs (fun x2 => kI 3 vs (fun x3 => f_X10_areBlocks_J82 N KB KO175 x1 x2 x3 y1 y2 σ))))))]) (List.forall_mem_cons.mpr ⟨fun vs st σ => go_kStaii (fun y1 y2 => go_kA (fun h0 => go_kI (fun x1 h1 => go_kI (fun x2 h2 => go_kI (fun x3 h3 => GO.pat [(0, .ref 41), (1, .int x1), (2, .int x2), (3, .int x3)] ⟨h0, h1, h2, h3, trivial⟩ (g_X10_areBlocks_J82 N KB hKB KO175 hKO175 x1 x2 x3 y1 y2 σ)))))), (fun _ z => absurd z List.not_mem_nil)⟩) 104 ?_ ?_ <;> rfl)
set_option maxRecDepth 200000 in
theorem g_X10_areBlocks_J57 (N : Nat) (KB : Int32 → Int32 → Wd → Option (Int32 × Wd)) (hKB : ∀ (x1 : Int32) (x2 : Int32) (σ : Wd), GO cX10_areBlocks RX10 5 2 sc0 rZ nJ0 nV0 (KB x1 x2 σ) 9 (mkp 0 5 [(0, .ref 41), (1, .int x1), (2, .int x2)]) [] σ) (KO175 : Int32 → Wd → Option (Int32 × Wd)) (hKO175 : ∀ (x2 : Int32) (σ : Wd), GO cX10_areBlocks RX10 5 2 sc0 rZ nJ0 nV0 (KO175 x2 σ) 175 (mkp 0 5 [(2, .int x2)]) [] σ) (x1 : Int32) (y0 : Int32) (σ : Wd) : GO cX10_areBlocks RX10 5 2 sc0 rZ nJ0 nV0 (f_X10_areBlocks_J57 N KB KO175 x1 y0 σ) 57 (mkp 0 5 [(0, .ref 41), (1, .int x1)]) [.int y0] σ := by
  exact (by refine GO.to (md_X10_areBlocks N) (kl := [(67, fun vs st σ => kSti st (fun y0 => kA 0 41 vs (kI 1 vs (fun x1 => kI 3 vs (fun x3 => f_X10_areBlocks_J67 N KB KO175 x1 x3 y0 σ)))))]) (List.forall_mem_cons.mpr ⟨fun vs st σ => go_kSti (fun y0 => go_kA (fun h0 => go_kI (fun x1 h1 => go_kI (fun x3 h3 => GO.pat [(0, .ref 41), (1, .int x1), (3, .int x3)] ⟨h0, h1, h3, trivial⟩ (g_X10_areBlocks_J67 N KB hKB KO175 hKO175 x1 x3 y0 σ))))), (fun _ z => absurd z List.not_mem_nil)⟩) 104 ?_ ?_ <;> rfl)
set_option maxRecDepth 200000 in
theorem g_X10_areBlocks_J56 (N : Nat) (KB : Int32 → Int32 → Wd → Option (Int32 × Wd)) (hKB : ∀ (x1 : Int32) (x2 : Int32) (σ : Wd), GO cX10_areBlocks RX10 5 2 sc0 rZ nJ0 nV0 (KB x1 x2 σ) 9 (mkp 0 5 [(0, .ref 41), (1, .int x1), (2, .int x2)]) [] σ) (KO175 : Int32 → Wd → Option (Int32 × Wd)) (hKO175 : ∀ (x2 : Int32) (σ : Wd), GO cX10_areBlocks RX10 5 2 sc0 rZ nJ0 nV0 (KO175 x2 σ) 175 (mkp 0 5 [(2, .int x2)]) [] σ) (x1 : Int32) (σ : Wd) : GO cX10_areBlocks RX10 5 2 sc0 rZ nJ0 nV0 (f_X10_areBlocks_J56 N KB KO175 x1 σ) 56 (mkp 0 5 [(0, .ref 41), (1, .int x1)]) [] σ := by
  exact (by refine GO.to (md_X10_areBlocks N) (kl := [(57, fun vs st σ => kSti st (fun y0 => kA 0 41 vs (kI 1 vs (fun x1 => f_X10_areBlocks_J57 N KB KO175 x1 y0 σ))))]) (List.forall_mem_cons.mpr ⟨fun vs st σ => go_kSti (fun y0 => go_kA (fun h0 => go_kI (fun x1 h1 => GO.pat [(0, .ref 41), (1, .int x1)] ⟨h0, h1, trivial⟩ (g_X10_areBlocks_J57 N KB hKB KO175 hKO175 x1 y0 σ)))), (fun _ z => absurd z List.not_mem_nil)⟩) 104 ?_ ?_ <;> rfl)
set_option maxRecDepth 200000 in
theorem g_X10_areBlocks_J31 (N : Nat) (KB : Int32 → Int32 → Wd → Option (Int32 × Wd)) (hKB : ∀ (x1 : Int32) (x2 : Int32) (σ : Wd), GO cX10_areBlocks RX10 5 2 sc0 rZ nJ0 nV0 (KB x1 x2 σ) 9 (mkp 0 5 [(0, .ref 41), (1, .int x1), (2, .int x2)]) [] σ) (KO175 : Int32 → Wd → Option (Int32 × Wd)) (hKO175 : ∀ (x2 : Int32) (σ : Wd), GO cX10_areBlocks RX10 5 2 sc0 rZ nJ0 nV0 (KO175 x2 σ) 175 (mkp 0 5 [(2, .int x2)]) [] σ) (x1 : Int32) (σ : Wd) : GO cX10_areBlocks RX10 5 2 sc0 rZ nJ0 nV0 (f_X10_areBlocks_J31 N KB KO175 x1 σ) 31 (mkp 0 5 [(0, .ref 41), (1, .int x1)]) [] σ := by
  exact (by refine GO.to (md_X10_areBlocks N) (kl := [(56, fun vs st σ => kS0 st (kA 0 41 vs (kI 1 vs (fun x1 => f_X10_areBlocks_J56 N KB KO175 x1 σ)))), (57, fun vs st σ => kSti st (fun y0 => kA 0 41 vs (kI 1 vs (fun x1 => f_X10_areBlocks_J57 N KB KO175 x1 y0 σ))))]) (List.forall_mem_cons.mpr ⟨fun vs st σ => go_kS0 (go_kA (fun h0 => go_kI (fun x1 h1 => GO.pat [(0, .ref 41), (1, .int x1)] ⟨h0, h1, trivial⟩ (g_X10_areBlocks_J56 N KB hKB KO175 hKO175 x1 σ)))), List.forall_mem_cons.mpr ⟨fun vs st σ => go_kSti (fun y0 => go_kA (fun h0 => go_kI (fun x1 h1 => GO.pat [(0, .ref 41), (1, .int x1)] ⟨h0, h1, trivial⟩ (g_X10_areBlocks_J57 N KB hKB KO175 hKO175 x1 y0 σ)))), (fun _ z => absurd z List.not_mem_nil)⟩⟩) 104 ?_ ?_ <;> rfl)
set_option maxRecDepth 200000 in
theorem g_X10_areBlocks_L9 (N : Nat) (KO175 : Int32 → Wd → Option (Int32 × Wd)) (hKO175 : ∀ (x2 : Int32) (σ : Wd), GO cX10_areBlocks RX10 5 2 sc0 rZ nJ0 nV0 (KO175 x2 σ) 175 (mkp 0 5 [(2, .int x2)]) [] σ) : ∀ (n : Nat), ∀ (x1 : Int32) (x2 : Int32) (σ : Wd), GO cX10_areBlocks RX10 5 2 sc0 rZ nJ0 nV0 (f_X10_areBlocks_L9 N KO175 n x1 x2 σ) 9 (mkp 0 5 [(0, .ref 41), (1, .int x1), (2, .int x2)]) [] σ
  | 0, x1, x2, σ => GO.none
  | n + 1, x1, x2, σ => by
    exact (by refine GO.to (md_X10_areBlocks N) (kl := [(175, fun vs st σ => kS0 st (kI 2 vs (fun x2 => KO175 x2 σ))), (31, fun vs st σ => kS0 st (kA 0 41 vs (kI 1 vs (fun x1 => f_X10_areBlocks_J31 N (f_X10_areBlocks_L9 N KO175 n) KO175 x1 σ))))]) (List.forall_mem_cons.mpr ⟨fun vs st σ => go_kS0 (go_kI (fun x2 h2 => GO.pat [(2, .int x2)] ⟨h2, trivial⟩ (hKO175 x2 σ))), List.forall_mem_cons.mpr ⟨fun vs st σ => go_kS0 (go_kA (fun h0 => go_kI (fun x1 h1 => GO.pat [(0, .ref 41), (1, .int x1)] ⟨h0, h1, trivial⟩ (g_X10_areBlocks_J31 N (f_X10_areBlocks_L9 N KO175 n) (g_X10_areBlocks_L9 N KO175 hKO175 n) KO175 hKO175 x1 σ)))), (fun _ z => absurd z List.not_mem_nil)⟩⟩) 104 ?_ ?_ <;> rfl)
set_option maxRecDepth 200000 in
theorem g_X10_areBlocks_J175 (N : Nat) (x2 : Int32) (σ : Wd) : GO cX10_areBlocks RX10 5 2 sc0 rZ nJ0 nV0 (f_X10_areBlocks_J175 N x2 σ) 175 (mkp 0 5 [(2, .int x2)]) [] σ := by
  exact (by refine GO.to (md_X10_areBlocks N) (kl := []) ((fun _ z => absurd z List.not_mem_nil)) 104 ?_ ?_ <;> rfl)
set_option maxRecDepth 200000 in
theorem C_X10_areBlocks (N : Nat) : CTI 2 yX10_areBlocks cX10_areBlocks 5 (some .boolean) (a_X10_areBlocks N) := by
  refine CTZ.of (own := RX10) (by decide) rfl (fun as σ r h => ?_)
  unfold a_X10_areBlocks at h
  rcases kSE_s h with ⟨r0, rfl, h0⟩ | hn
  ·
    obtain ⟨rfl, h9⟩ := kS0_s h0
    exact ⟨Nat.le_of_ble_eq_true rfl, by refine GO.to (md_X10_areBlocks N) (kl := [(9, fun vs st σ => kS0 st (kA 0 41 vs (kI 1 vs (fun x1 => kI 2 vs (fun x2 => f_X10_areBlocks_L9 N (f_X10_areBlocks_J175 N) N x1 x2 σ)))))]) (List.forall_mem_cons.mpr ⟨fun vs st σ => go_kS0 (go_kA (fun h0 => go_kI (fun x1 h1 => go_kI (fun x2 h2 => GO.pat [(0, .ref 41), (1, .int x1), (2, .int x2)] ⟨h0, h1, h2, trivial⟩ (g_X10_areBlocks_L9 N (f_X10_areBlocks_J175 N) (g_X10_areBlocks_J175 N) N x1 x2 σ))))), (fun _ z => absurd z List.not_mem_nil)⟩) 104 ?_ ?_ <;> rfl⟩
  cases hn
def T_X10_planNamed : List (Nat × Ent) := [(0, .bipush (-2), 2, []), (2, .istore_n 1, 3, []), (3, .iconst 0, 4, []), (4, .istore_n 2, 5, []), (5, .iload_n 2, 6, []), (6, .aload_n 0, 7, []), (7, .getfield 100, 10, []), (10, .if_icmp .ge 43, 13, [53]), (13, .aload_n 0, 14, []), (14, .getfield 11, 17, []), (17, .iconst 4, 18, []), (18, .iload_n 2, 19, []), (19, .imul, 20, []), (20, .aload_n 0, 21, []), (21, .getfield 15, 24, []), (24, .iload_n 2, 25, []), (25, .iaload, 26, []), (26, .aload_n 0, 27, []), (27, .getfield 27, 30, []), (30, .iconst 0, 31, []), (31, .aload_n 0, 32, []), (32, .getfield 122, 35, []), (35, .invokestatic 142, 38, []), (38, .ifCond .eq 7, 41, [45]), (41, .iload_n 2, 42, []), (42, .goto 4, 45, [46]), (45, .iload_n 1, 46, []), (46, .istore_n 1, 47, []), (47, .iinc 2 1, 50, []), (50, .goto (-45), 53, [5]), (53, .iload_n 1, 54, []), (54, .ireturn, 55, [])]
set_option maxRecDepth 200000 in
theorem tc_X10_planNamed : T_X10_planNamed.all (chk cX10_planNamed) = true := by decide +kernel
def f_X10_planNamed_L5 (N : Nat) (KO53 : Int32 → Wd → Option (Int32 × Wd)) : Nat → Int32 → Int32 → Wd → Option (Int32 × Wd)
  | 0, _, _, _ => none
  | n + 1, x1, x2, σ => if (σ.1 41 4) ≤ x2 then (KO53 x1 σ) else ((xld σ 43 12 x2).bind fun v1 => (f_X10_areAlike N 42 48 47 4 (4 * x2) v1 0 (σ.1 41 9) σ).bind fun p2 => if p2.1 = 0 then (f_X10_planNamed_L5 N KO53 n x1 (x2 + 1) p2.2) else (f_X10_planNamed_L5 N KO53 n x2 (x2 + 1) p2.2))
def f_X10_planNamed_J53 (N : Nat) (x1 : Int32) (σ : Wd) : Option (Int32 × Wd) :=
  some (x1, σ)
def f_X10_planNamed (N : Nat) (σ : Wd) : Option (Int32 × Wd) :=
  f_X10_planNamed_L5 N (f_X10_planNamed_J53 N) N (-2) 0 σ
def a_X10_planNamed (N : Nat) : List Value → Wd → Option (Int32 × Wd) := fun as σ => kSE 41 as (fun r0 => kS0 r0 (f_X10_planNamed N σ)) (none)
set_option maxRecDepth 200000 in
theorem k_X10_142 : calchk RX10 142 6 0 yX10_areAlike cX10_areAlike 8 (some .boolean) = true := by decide +kernel
def ct_X10_planNamed (N : Nat) : List (Nat × Cal) := [(142, 6, 0, .inl (a_X10_areAlike N))]
set_option maxRecDepth 200000 in
theorem md_X10_planNamed (N : Nat) : MDOK T_X10_planNamed ft_X10 lt_X10 (ct_X10_planNamed N) cX10_planNamed RX10 2 := ⟨tc_X10_planNamed, fc_X10, lc_X10, List.forall_mem_cons.mpr ⟨Or.inl ⟨yX10_areAlike, cX10_areAlike, 8, (some .boolean), 1, k_X10_142, Nat.le_of_ble_eq_true rfl, C_X10_areAlike N⟩, (fun _ z => absurd z List.not_mem_nil)⟩⟩
set_option maxRecDepth 200000 in
theorem g_X10_planNamed_L5 (N : Nat) (KO53 : Int32 → Wd → Option (Int32 × Wd)) (hKO53 : ∀ (x1 : Int32) (σ : Wd), GO cX10_planNamed RX10 3 2 sc0 rI nJ0 nV0 (KO53 x1 σ) 53 (mkp 0 3 [(1, .int x1)]) [] σ) : ∀ (n : Nat), ∀ (x1 : Int32) (x2 : Int32) (σ : Wd), GO cX10_planNamed RX10 3 2 sc0 rI nJ0 nV0 (f_X10_planNamed_L5 N KO53 n x1 x2 σ) 5 (mkp 0 3 [(0, .ref 41), (1, .int x1), (2, .int x2)]) [] σ
  | 0, x1, x2, σ => GO.none
  | n + 1, x1, x2, σ => by
    exact (by refine GO.to (md_X10_planNamed N) (kl := [(53, fun vs st σ => kS0 st (kI 1 vs (fun x1 => KO53 x1 σ))), (5, fun vs st σ => kS0 st (kA 0 41 vs (kI 1 vs (fun x1 => kI 2 vs (fun x2 => f_X10_planNamed_L5 N KO53 n x1 x2 σ)))))]) (List.forall_mem_cons.mpr ⟨fun vs st σ => go_kS0 (go_kI (fun x1 h1 => GO.pat [(1, .int x1)] ⟨h1, trivial⟩ (hKO53 x1 σ))), List.forall_mem_cons.mpr ⟨fun vs st σ => go_kS0 (go_kA (fun h0 => go_kI (fun x1 h1 => go_kI (fun x2 h2 => GO.pat [(0, .ref 41), (1, .int x1), (2, .int x2)] ⟨h0, h1, h2, trivial⟩ (g_X10_planNamed_L5 N KO53 hKO53 n x1 x2 σ))))), (fun _ z => absurd z List.not_mem_nil)⟩⟩) 37 ?_ ?_ <;> rfl)
set_option maxRecDepth 200000 in
theorem g_X10_planNamed_J53 (N : Nat) (x1 : Int32) (σ : Wd) : GO cX10_planNamed RX10 3 2 sc0 rI nJ0 nV0 (f_X10_planNamed_J53 N x1 σ) 53 (mkp 0 3 [(1, .int x1)]) [] σ := by
  exact (by refine GO.to (md_X10_planNamed N) (kl := []) ((fun _ z => absurd z List.not_mem_nil)) 37 ?_ ?_ <;> rfl)
set_option maxRecDepth 200000 in
theorem C_X10_planNamed (N : Nat) : CTI 2 yX10_planNamed cX10_planNamed 3 (some .int) (a_X10_planNamed N) := by
  refine CTI.of (own := RX10) (by decide) rfl (fun as σ r h => ?_)
  unfold a_X10_planNamed at h
  rcases kSE_s h with ⟨r0, rfl, h0⟩ | hn
  ·
    obtain ⟨rfl, h9⟩ := kS0_s h0
    exact ⟨Nat.le_of_ble_eq_true rfl, by refine GO.to (md_X10_planNamed N) (kl := [(5, fun vs st σ => kS0 st (kA 0 41 vs (kI 1 vs (fun x1 => kI 2 vs (fun x2 => f_X10_planNamed_L5 N (f_X10_planNamed_J53 N) N x1 x2 σ)))))]) (List.forall_mem_cons.mpr ⟨fun vs st σ => go_kS0 (go_kA (fun h0 => go_kI (fun x1 h1 => go_kI (fun x2 h2 => GO.pat [(0, .ref 41), (1, .int x1), (2, .int x2)] ⟨h0, h1, h2, trivial⟩ (g_X10_planNamed_L5 N (f_X10_planNamed_J53 N) (g_X10_planNamed_J53 N) N x1 x2 σ))))), (fun _ z => absurd z List.not_mem_nil)⟩) 37 ?_ ?_ <;> rfl⟩
  cases hn
def T_X10_placeKnown : List (Nat × Ent) := [(0, .bipush (-2), 2, []), (2, .istore 4, 4, []), (4, .iconst 0, 5, []), (5, .istore 5, 7, []), (7, .iload 5, 9, []), (9, .aload_n 0, 10, []), (10, .getfield 170, 13, []), (13, .if_icmp .ge 43, 16, [56]), (16, .aload_n 0, 17, []), (17, .getfield 33, 20, []), (20, .bipush 8, 22, []), (22, .iload 5, 24, []), (24, .imul, 25, []), (25, .aload_n 0, 26, []), (26, .getfield 36, 29, []), (29, .iload 5, 31, []), (31, .iaload, 32, []), (32, .aload_n 1, 33, []), (33, .iload_n 2, 34, []), (34, .iload_n 3, 35, []), (35, .invokestatic 142, 38, []), (38, .ifCond .eq 8, 41, [46]), (41, .iload 5, 43, []), (43, .goto 5, 46, [48]), (46, .iload 4, 48, []), (48, .istore 4, 50, []), (50, .iinc 5 1, 53, []), (53, .goto (-46), 56, [7]), (56, .iload 4, 58, []), (58, .ireturn, 59, [])]
set_option maxRecDepth 200000 in
theorem tc_X10_placeKnown : T_X10_placeKnown.all (chk cX10_placeKnown) = true := by decide +kernel
def f_X10_placeKnown_L7 (N : Nat) (K1 K1L : Nat) (KO56 : Int32 → Wd → Option (Int32 × Wd)) : Nat → Int32 → Int32 → Int32 → Int32 → Wd → Option (Int32 × Wd)
  | 0, _, _, _, _, _ => none
  | n + 1, x2, x3, x4, x5, σ => if (σ.1 41 14) ≤ x5 then (KO56 x4 σ) else ((xld σ 50 21 x5).bind fun v1 => (f_X10_areAlike N 49 168 K1 K1L (8 * x5) v1 x2 x3 σ).bind fun p2 => if p2.1 = 0 then (f_X10_placeKnown_L7 N K1 K1L KO56 n x2 x3 x4 (x5 + 1) p2.2) else (f_X10_placeKnown_L7 N K1 K1L KO56 n x2 x3 x5 (x5 + 1) p2.2))
def f_X10_placeKnown_J56 (N : Nat) (K1 K1L : Nat) (x4 : Int32) (σ : Wd) : Option (Int32 × Wd) :=
  some (x4, σ)
def f_X10_placeKnown (N : Nat) (K1 K1L : Nat) (a2 : Int32) (a3 : Int32) (σ : Wd) : Option (Int32 × Wd) :=
  f_X10_placeKnown_L7 N K1 K1L (f_X10_placeKnown_J56 N K1 K1L) N a2 a3 (-2) 0 σ
def a_X10_placeKnown (N : Nat) : List Value → Wd → Option (Int32 × Wd) := fun as σ => kSE 41 as (fun r0 => kSE 44 r0 (fun r1 => kSI r1 (fun b2 r2 => kSI r2 (fun b3 r3 => kS0 r3 (f_X10_placeKnown N 44 96 b2 b3 σ)))) (kSE 69 r0 (fun r1 => kSI r1 (fun b2 r2 => kSI r2 (fun b3 r3 => kS0 r3 (f_X10_placeKnown N 69 32 b2 b3 σ)))) (none))) (none)
def ct_X10_placeKnown (N : Nat) : List (Nat × Cal) := [(142, 6, 0, .inl (a_X10_areAlike N))]
set_option maxRecDepth 200000 in
theorem md_X10_placeKnown (N : Nat) : MDOK T_X10_placeKnown ft_X10 lt_X10 (ct_X10_placeKnown N) cX10_placeKnown RX10 2 := ⟨tc_X10_placeKnown, fc_X10, lc_X10, List.forall_mem_cons.mpr ⟨Or.inl ⟨yX10_areAlike, cX10_areAlike, 8, (some .boolean), 1, k_X10_142, Nat.le_of_ble_eq_true rfl, C_X10_areAlike N⟩, (fun _ z => absurd z List.not_mem_nil)⟩⟩
set_option maxRecDepth 200000 in
theorem g_X10_placeKnown_L7 (N : Nat) (K1 K1L : Nat) (hK1 : (K1 = 44 ∧ K1L = 96) ∨ (K1 = 69 ∧ K1L = 32)) (KO56 : Int32 → Wd → Option (Int32 × Wd)) (hKO56 : ∀ (x4 : Int32) (σ : Wd), GO cX10_placeKnown RX10 6 2 sc0 rI nJ0 nV0 (KO56 x4 σ) 56 (mkp 0 6 [(4, .int x4)]) [] σ) : ∀ (n : Nat), ∀ (x2 : Int32) (x3 : Int32) (x4 : Int32) (x5 : Int32) (σ : Wd), GO cX10_placeKnown RX10 6 2 sc0 rI nJ0 nV0 (f_X10_placeKnown_L7 N K1 K1L KO56 n x2 x3 x4 x5 σ) 7 (mkp 0 6 [(0, .ref 41), (1, .ref K1), (2, .int x2), (3, .int x3), (4, .int x4), (5, .int x5)]) [] σ
  | 0, x2, x3, x4, x5, σ => GO.none
  | n + 1, x2, x3, x4, x5, σ => by
    rcases hK1 with ⟨rfl, rfl⟩ | ⟨rfl, rfl⟩
    · exact (by refine GO.to (md_X10_placeKnown N) (kl := [(56, fun vs st σ => kS0 st (kI 4 vs (fun x4 => KO56 x4 σ))), (7, fun vs st σ => kS0 st (kA 0 41 vs (kA 1 44 vs (kI 2 vs (fun x2 => kI 3 vs (fun x3 => kI 4 vs (fun x4 => kI 5 vs (fun x5 => f_X10_placeKnown_L7 N 44 96 KO56 n x2 x3 x4 x5 σ))))))))]) (List.forall_mem_cons.mpr ⟨fun vs st σ => go_kS0 (go_kI (fun x4 h4 => GO.pat [(4, .int x4)] ⟨h4, trivial⟩ (hKO56 x4 σ))), List.forall_mem_cons.mpr ⟨fun vs st σ => go_kS0 (go_kA (fun h0 => go_kA (fun h1 => go_kI (fun x2 h2 => go_kI (fun x3 h3 => go_kI (fun x4 h4 => go_kI (fun x5 h5 => GO.pat [(0, .ref 41), (1, .ref 44), (2, .int x2), (3, .int x3), (4, .int x4), (5, .int x5)] ⟨h0, h1, h2, h3, h4, h5, trivial⟩ (g_X10_placeKnown_L7 N 44 96 (Or.inl ⟨rfl, rfl⟩) KO56 hKO56 n x2 x3 x4 x5 σ)))))))), (fun _ z => absurd z List.not_mem_nil)⟩⟩) 35 ?_ ?_ <;> rfl)
    · exact (by refine GO.to (md_X10_placeKnown N) (kl := [(56, fun vs st σ => kS0 st (kI 4 vs (fun x4 => KO56 x4 σ))), (7, fun vs st σ => kS0 st (kA 0 41 vs (kA 1 69 vs (kI 2 vs (fun x2 => kI 3 vs (fun x3 => kI 4 vs (fun x4 => kI 5 vs (fun x5 => f_X10_placeKnown_L7 N 69 32 KO56 n x2 x3 x4 x5 σ))))))))]) (List.forall_mem_cons.mpr ⟨fun vs st σ => go_kS0 (go_kI (fun x4 h4 => GO.pat [(4, .int x4)] ⟨h4, trivial⟩ (hKO56 x4 σ))), List.forall_mem_cons.mpr ⟨fun vs st σ => go_kS0 (go_kA (fun h0 => go_kA (fun h1 => go_kI (fun x2 h2 => go_kI (fun x3 h3 => go_kI (fun x4 h4 => go_kI (fun x5 h5 => GO.pat [(0, .ref 41), (1, .ref 69), (2, .int x2), (3, .int x3), (4, .int x4), (5, .int x5)] ⟨h0, h1, h2, h3, h4, h5, trivial⟩ (g_X10_placeKnown_L7 N 69 32 (Or.inr ⟨rfl, rfl⟩) KO56 hKO56 n x2 x3 x4 x5 σ)))))))), (fun _ z => absurd z List.not_mem_nil)⟩⟩) 35 ?_ ?_ <;> rfl)
set_option maxRecDepth 200000 in
theorem g_X10_placeKnown_J56 (N : Nat) (K1 K1L : Nat) (hK1 : (K1 = 44 ∧ K1L = 96) ∨ (K1 = 69 ∧ K1L = 32)) (x4 : Int32) (σ : Wd) : GO cX10_placeKnown RX10 6 2 sc0 rI nJ0 nV0 (f_X10_placeKnown_J56 N K1 K1L x4 σ) 56 (mkp 0 6 [(4, .int x4)]) [] σ := by
  rcases hK1 with ⟨rfl, rfl⟩ | ⟨rfl, rfl⟩
  · exact (by refine GO.to (md_X10_placeKnown N) (kl := []) ((fun _ z => absurd z List.not_mem_nil)) 35 ?_ ?_ <;> rfl)
  · exact (by refine GO.to (md_X10_placeKnown N) (kl := []) ((fun _ z => absurd z List.not_mem_nil)) 35 ?_ ?_ <;> rfl)
set_option maxRecDepth 200000 in
theorem C_X10_placeKnown (N : Nat) : CTI 2 yX10_placeKnown cX10_placeKnown 6 (some .int) (a_X10_placeKnown N) := by
  refine CTI.of (own := RX10) (by decide) rfl (fun as σ r h => ?_)
  unfold a_X10_placeKnown at h
  rcases kSE_s h with ⟨r0, rfl, h0⟩ | hn
  ·
    rcases kSE_s h0 with ⟨r1, rfl, h1⟩ | h0n
    ·
      obtain ⟨b2, r2, rfl, h2⟩ := kSI_s h1
      obtain ⟨b3, r3, rfl, h3⟩ := kSI_s h2
      obtain ⟨rfl, h9⟩ := kS0_s h3
      exact ⟨Nat.le_of_ble_eq_true rfl, by refine GO.to (md_X10_placeKnown N) (kl := [(7, fun vs st σ => kS0 st (kA 0 41 vs (kA 1 44 vs (kI 2 vs (fun x2 => kI 3 vs (fun x3 => kI 4 vs (fun x4 => kI 5 vs (fun x5 => f_X10_placeKnown_L7 N 44 96 (f_X10_placeKnown_J56 N 44 96) N x2 x3 x4 x5 σ))))))))]) (List.forall_mem_cons.mpr ⟨fun vs st σ => go_kS0 (go_kA (fun h0 => go_kA (fun h1 => go_kI (fun x2 h2 => go_kI (fun x3 h3 => go_kI (fun x4 h4 => go_kI (fun x5 h5 => GO.pat [(0, .ref 41), (1, .ref 44), (2, .int x2), (3, .int x3), (4, .int x4), (5, .int x5)] ⟨h0, h1, h2, h3, h4, h5, trivial⟩ (g_X10_placeKnown_L7 N 44 96 (Or.inl ⟨rfl, rfl⟩) (f_X10_placeKnown_J56 N 44 96) (g_X10_placeKnown_J56 N 44 96 (Or.inl ⟨rfl, rfl⟩)) N x2 x3 x4 x5 σ)))))))), (fun _ z => absurd z List.not_mem_nil)⟩) 35 ?_ ?_ <;> rfl⟩
    rcases kSE_s h0n with ⟨r1, rfl, h1⟩ | h0nn
    ·
      obtain ⟨b2, r2, rfl, h2⟩ := kSI_s h1
      obtain ⟨b3, r3, rfl, h3⟩ := kSI_s h2
      obtain ⟨rfl, h9⟩ := kS0_s h3
      exact ⟨Nat.le_of_ble_eq_true rfl, by refine GO.to (md_X10_placeKnown N) (kl := [(7, fun vs st σ => kS0 st (kA 0 41 vs (kA 1 69 vs (kI 2 vs (fun x2 => kI 3 vs (fun x3 => kI 4 vs (fun x4 => kI 5 vs (fun x5 => f_X10_placeKnown_L7 N 69 32 (f_X10_placeKnown_J56 N 69 32) N x2 x3 x4 x5 σ))))))))]) (List.forall_mem_cons.mpr ⟨fun vs st σ => go_kS0 (go_kA (fun h0 => go_kA (fun h1 => go_kI (fun x2 h2 => go_kI (fun x3 h3 => go_kI (fun x4 h4 => go_kI (fun x5 h5 => GO.pat [(0, .ref 41), (1, .ref 69), (2, .int x2), (3, .int x3), (4, .int x4), (5, .int x5)] ⟨h0, h1, h2, h3, h4, h5, trivial⟩ (g_X10_placeKnown_L7 N 69 32 (Or.inr ⟨rfl, rfl⟩) (f_X10_placeKnown_J56 N 69 32) (g_X10_placeKnown_J56 N 69 32 (Or.inr ⟨rfl, rfl⟩)) N x2 x3 x4 x5 σ)))))))), (fun _ z => absurd z List.not_mem_nil)⟩) 35 ?_ ?_ <;> rfl⟩
    cases h0nn
  cases hn
def T_X10_sideAt : List (Nat × Ent) := [(0, .iload_n 0, 1, []), (1, .i2l, 2, []), (2, .lconst 0, 3, []), (3, .lconst 1, 4, []), (4, .invokestatic 104, 7, []), (7, .ifCond .eq 24, 10, [31]), (10, .iload_n 1, 11, []), (11, .i2l, 12, []), (12, .lconst 0, 13, []), (13, .ldc2_w 180, 16, []), (16, .invokestatic 104, 19, []), (19, .ifCond .eq 12, 22, [31]), (22, .bipush 12, 24, []), (24, .iload_n 0, 25, []), (25, .imul, 26, []), (26, .iload_n 1, 27, []), (27, .iadd, 28, []), (28, .goto 18, 31, [46]), (31, .iload_n 0, 32, []), (32, .iconst 2, 33, []), (33, .if_icmp .ne 12, 36, [45]), (36, .iload_n 1, 37, []), (37, .ifCond .ne 8, 40, [45]), (40, .bipush 24, 42, []), (42, .goto 4, 45, [46]), (45, .iconst (-1), 46, []), (46, .ireturn, 47, [])]
set_option maxRecDepth 200000 in
theorem tc_X10_sideAt : T_X10_sideAt.all (chk cX10_sideAt) = true := by decide +kernel
def f_X10_sideAt_J31 (N : Nat) (x0 : Int32) (x1 : Int32) (σ : Wd) : Option (Int32 × Wd) :=
  if x0 = 2 then (if x1 = 0 then (some (24, σ)) else (some ((-1), σ))) else (some ((-1), σ))
def f_X10_sideAt (N : Nat) (a0 : Int32) (a1 : Int32) (σ : Wd) : Option (Int32 × Wd) :=
  (f_X10_in N (Int32.toInt64 a0) 0 1 σ).bind fun p1 => if p1.1 = 0 then (f_X10_sideAt_J31 N a0 a1 p1.2) else ((f_X10_in N (Int32.toInt64 a1) 0 11 p1.2).bind fun p2 => if p2.1 = 0 then (f_X10_sideAt_J31 N a0 a1 p2.2) else (some ((12 * a0) + a1, p2.2)))
def a_X10_sideAt (N : Nat) : List Value → Wd → Option (Int32 × Wd) := fun as σ => kSI as (fun b0 r0 => kSI r0 (fun b1 r1 => kS0 r1 (f_X10_sideAt N b0 b1 σ)))
def ct_X10_sideAt (N : Nat) : List (Nat × Cal) := [(104, 3, 0, .inl (a_X10_in N))]
set_option maxRecDepth 200000 in
theorem md_X10_sideAt (N : Nat) : MDOK T_X10_sideAt ft_X10 lt_X10 (ct_X10_sideAt N) cX10_sideAt RX10 2 := ⟨tc_X10_sideAt, fc_X10, lc_X10, List.forall_mem_cons.mpr ⟨Or.inl ⟨yX10_in, cX10_in, 6, (some .boolean), 1, k_X10_104, Nat.le_of_ble_eq_true rfl, C_X10_in N⟩, (fun _ z => absurd z List.not_mem_nil)⟩⟩
set_option maxRecDepth 200000 in
theorem g_X10_sideAt_J31 (N : Nat) (x0 : Int32) (x1 : Int32) (σ : Wd) : GO cX10_sideAt RX10 2 2 sc0 rI nJ0 nV0 (f_X10_sideAt_J31 N x0 x1 σ) 31 (mkp 0 2 [(0, .int x0), (1, .int x1)]) [] σ := by
  exact (by refine GO.to (md_X10_sideAt N) (kl := []) ((fun _ z => absurd z List.not_mem_nil)) 32 ?_ ?_ <;> rfl)
set_option maxRecDepth 200000 in
theorem C_X10_sideAt (N : Nat) : CTI 2 yX10_sideAt cX10_sideAt 2 (some .int) (a_X10_sideAt N) := by
  refine CTI.of (own := RX10) (by decide) rfl (fun as σ r h => ?_)
  unfold a_X10_sideAt at h
  obtain ⟨b0, r0, rfl, h0⟩ := kSI_s h
  obtain ⟨b1, r1, rfl, h1⟩ := kSI_s h0
  obtain ⟨rfl, h9⟩ := kS0_s h1
  exact ⟨Nat.le_of_ble_eq_true rfl, by refine GO.to (md_X10_sideAt N) (kl := [(31, fun vs st σ => kS0 st (kI 0 vs (fun x0 => kI 1 vs (fun x1 => f_X10_sideAt_J31 N x0 x1 σ))))]) (List.forall_mem_cons.mpr ⟨fun vs st σ => go_kS0 (go_kI (fun x0 h0 => go_kI (fun x1 h1 => GO.pat [(0, .int x0), (1, .int x1)] ⟨h0, h1, trivial⟩ (g_X10_sideAt_J31 N x0 x1 σ)))), (fun _ z => absurd z List.not_mem_nil)⟩) 32 ?_ ?_ <;> rfl⟩
def T_X10_delay : List (Nat × Ent) := [(0, .iload_n 1, 1, []), (1, .i2l, 2, []), (2, .lconst 0, 3, []), (3, .ldc2_w 182, 6, []), (6, .invokestatic 104, 9, []), (9, .ifCond .eq 15, 12, [24]), (12, .iload_n 2, 13, []), (13, .i2l, 14, []), (14, .lconst 0, 15, []), (15, .ldc2_w 184, 18, []), (18, .invokestatic 104, 21, []), (21, .ifCond .ne 5, 24, [26]), (24, .iconst (-1), 25, []), (25, .ireturn, 26, []), (26, .aload_n 0, 27, []), (27, .getfield 39, 30, []), (30, .iload_n 1, 31, []), (31, .iaload, 32, []), (32, .istore_n 3, 33, []), (33, .aload_n 0, 34, []), (34, .getfield 39, 37, []), (37, .iload_n 1, 38, []), (38, .iload_n 2, 39, []), (39, .iastore, 40, []), (40, .aload_n 0, 41, []), (41, .iconst 0, 42, []), (42, .putfield 170, 45, []), (45, .iload_n 3, 46, []), (46, .ireturn, 47, [])]
set_option maxRecDepth 200000 in
theorem tc_X10_delay : T_X10_delay.all (chk cX10_delay) = true := by decide +kernel
def f_X10_delay (N : Nat) (a1 : Int32) (a2 : Int32) (σ : Wd) : Option (Int32 × Wd) :=
  (f_X10_in N (Int32.toInt64 a1) 0 3 σ).bind fun p1 => if p1.1 = 0 then (some ((-1), p1.2)) else ((f_X10_in N (Int32.toInt64 a2) 0 9 p1.2).bind fun p2 => if p2.1 = 0 then (some ((-1), p2.2)) else ((xld p2.2 51 4 a1).bind fun v3 => (xst p2.2 51 4 a1 a2).bind fun σ4 => let σ5 : Wd := sF σ4 41 14 0
  some (v3, σ5)))
def a_X10_delay (N : Nat) : List Value → Wd → Option (Int32 × Wd) := fun as σ => kSE 41 as (fun r0 => kSI r0 (fun b1 r1 => kSI r1 (fun b2 r2 => kS0 r2 (f_X10_delay N b1 b2 σ)))) (none)
def ct_X10_delay (N : Nat) : List (Nat × Cal) := [(104, 3, 0, .inl (a_X10_in N))]
set_option maxRecDepth 200000 in
theorem md_X10_delay (N : Nat) : MDOK T_X10_delay ft_X10 lt_X10 (ct_X10_delay N) cX10_delay RX10 2 := ⟨tc_X10_delay, fc_X10, lc_X10, List.forall_mem_cons.mpr ⟨Or.inl ⟨yX10_in, cX10_in, 6, (some .boolean), 1, k_X10_104, Nat.le_of_ble_eq_true rfl, C_X10_in N⟩, (fun _ z => absurd z List.not_mem_nil)⟩⟩
set_option maxRecDepth 200000 in
theorem C_X10_delay (N : Nat) : CTI 2 yX10_delay cX10_delay 4 (some .int) (a_X10_delay N) := by
  refine CTI.of (own := RX10) (by decide) rfl (fun as σ r h => ?_)
  unfold a_X10_delay at h
  rcases kSE_s h with ⟨r0, rfl, h0⟩ | hn
  ·
    obtain ⟨b1, r1, rfl, h1⟩ := kSI_s h0
    obtain ⟨b2, r2, rfl, h2⟩ := kSI_s h1
    obtain ⟨rfl, h9⟩ := kS0_s h2
    exact ⟨Nat.le_of_ble_eq_true rfl, by refine GO.to (md_X10_delay N) (kl := []) ((fun _ z => absurd z List.not_mem_nil)) 34 ?_ ?_ <;> rfl⟩
  cases hn
def T_X10_not : List (Nat × Ent) := [(0, .iload_n 1, 1, []), (1, .bipush 25, 3, []), (3, .if_icmp .ne 8, 6, [11]), (6, .bipush 26, 8, []), (8, .goto 39, 11, [47]), (11, .iload_n 1, 12, []), (12, .bipush 26, 14, []), (14, .if_icmp .ne 8, 17, [22]), (17, .bipush 25, 19, []), (19, .goto 28, 22, [47]), (22, .aload_n 0, 23, []), (23, .getfield 45, 26, []), (26, .iload_n 1, 27, []), (27, .iaload, 28, []), (28, .ifCond .ne 12, 31, [40]), (31, .aload_n 0, 32, []), (32, .getfield 48, 35, []), (35, .iload_n 1, 36, []), (36, .iaload, 37, []), (37, .goto 10, 40, [47]), (40, .aload_n 0, 41, []), (41, .iconst 0, 42, []), (42, .iload_n 1, 43, []), (43, .iload_n 1, 44, []), (44, .invokevirtual 195, 47, []), (47, .ireturn, 48, [])]
set_option maxRecDepth 200000 in
theorem tc_X10_not : T_X10_not.all (chk cX10_not) = true := by decide +kernel
def f_X10_not (N : Nat) (a1 : Int32) (σ : Wd) : Option (Int32 × Wd) :=
  if a1 = 25 then (some (26, σ)) else (if a1 = 26 then (some (25, σ)) else ((xld σ 53 2048 a1).bind fun v1 => if v1 = 0 then ((xld σ 54 2048 a1).bind fun v2 => some (v2, σ)) else ((f_X10_gate N 0 a1 a1 σ).bind fun p3 => some (p3.1, p3.2))))
def a_X10_not (N : Nat) : List Value → Wd → Option (Int32 × Wd) := fun as σ => kSE 41 as (fun r0 => kSI r0 (fun b1 r1 => kS0 r1 (f_X10_not N b1 σ))) (none)
set_option maxRecDepth 200000 in
theorem k_X10_195 : calchk RX10 195 4 10 yX10_gate cX10_gate 5 (some .int) = true := by decide +kernel
def ct_X10_not (N : Nat) : List (Nat × Cal) := [(195, 4, 10, .inl (a_X10_gate N))]
set_option maxRecDepth 200000 in
theorem md_X10_not (N : Nat) : MDOK T_X10_not ft_X10 lt_X10 (ct_X10_not N) cX10_not RX10 2 := ⟨tc_X10_not, fc_X10, lc_X10, List.forall_mem_cons.mpr ⟨Or.inl ⟨yX10_gate, cX10_gate, 5, (some .int), 1, k_X10_195, Nat.le_of_ble_eq_true rfl, C_X10_gate N⟩, (fun _ z => absurd z List.not_mem_nil)⟩⟩
set_option maxRecDepth 200000 in
theorem C_X10_not (N : Nat) : CTI 2 yX10_not cX10_not 2 (some .int) (a_X10_not N) := by
  refine CTI.of (own := RX10) (by decide) rfl (fun as σ r h => ?_)
  unfold a_X10_not at h
  rcases kSE_s h with ⟨r0, rfl, h0⟩ | hn
  ·
    obtain ⟨b1, r1, rfl, h1⟩ := kSI_s h0
    obtain ⟨rfl, h9⟩ := kS0_s h1
    exact ⟨Nat.le_of_ble_eq_true rfl, by refine GO.to (md_X10_not N) (kl := []) ((fun _ z => absurd z List.not_mem_nil)) 31 ?_ ?_ <;> rfl⟩
  cases hn
def T_X10_and : List (Nat × Ent) := [(0, .iload_n 1, 1, []), (1, .bipush 25, 3, []), (3, .if_icmp .eq 9, 6, [12]), (6, .iload_n 2, 7, []), (7, .bipush 25, 9, []), (9, .if_icmp .ne 8, 12, [17]), (12, .bipush 25, 14, []), (14, .goto 35, 17, [49]), (17, .iload_n 1, 18, []), (18, .bipush 26, 20, []), (20, .if_icmp .eq 8, 23, [28]), (23, .iload_n 1, 24, []), (24, .iload_n 2, 25, []), (25, .if_icmp .ne 7, 28, [32]), (28, .iload_n 2, 29, []), (29, .goto 20, 32, [49]), (32, .iload_n 2, 33, []), (33, .bipush 26, 35, []), (35, .if_icmp .ne 7, 38, [42]), (38, .iload_n 1, 39, []), (39, .goto 10, 42, [49]), (42, .aload_n 0, 43, []), (43, .iconst 1, 44, []), (44, .iload_n 1, 45, []), (45, .iload_n 2, 46, []), (46, .invokevirtual 195, 49, []), (49, .ireturn, 50, [])]
set_option maxRecDepth 200000 in
theorem tc_X10_and : T_X10_and.all (chk cX10_and) = true := by decide +kernel
def f_X10_and (N : Nat) (a1 : Int32) (a2 : Int32) (σ : Wd) : Option (Int32 × Wd) :=
  if a1 = 25 then (some (25, σ)) else (if a2 = 25 then (some (25, σ)) else (if a1 = 26 then (some (a2, σ)) else (if a1 = a2 then (some (a2, σ)) else (if a2 = 26 then (some (a1, σ)) else ((f_X10_gate N 1 a1 a2 σ).bind fun p1 => some (p1.1, p1.2))))))
def a_X10_and (N : Nat) : List Value → Wd → Option (Int32 × Wd) := fun as σ => kSE 41 as (fun r0 => kSI r0 (fun b1 r1 => kSI r1 (fun b2 r2 => kS0 r2 (f_X10_and N b1 b2 σ)))) (none)
def ct_X10_and (N : Nat) : List (Nat × Cal) := [(195, 4, 10, .inl (a_X10_gate N))]
set_option maxRecDepth 200000 in
theorem md_X10_and (N : Nat) : MDOK T_X10_and ft_X10 lt_X10 (ct_X10_and N) cX10_and RX10 2 := ⟨tc_X10_and, fc_X10, lc_X10, List.forall_mem_cons.mpr ⟨Or.inl ⟨yX10_gate, cX10_gate, 5, (some .int), 1, k_X10_195, Nat.le_of_ble_eq_true rfl, C_X10_gate N⟩, (fun _ z => absurd z List.not_mem_nil)⟩⟩
set_option maxRecDepth 200000 in
theorem C_X10_and (N : Nat) : CTI 2 yX10_and cX10_and 3 (some .int) (a_X10_and N) := by
  refine CTI.of (own := RX10) (by decide) rfl (fun as σ r h => ?_)
  unfold a_X10_and at h
  rcases kSE_s h with ⟨r0, rfl, h0⟩ | hn
  ·
    obtain ⟨b1, r1, rfl, h1⟩ := kSI_s h0
    obtain ⟨b2, r2, rfl, h2⟩ := kSI_s h1
    obtain ⟨rfl, h9⟩ := kS0_s h2
    exact ⟨Nat.le_of_ble_eq_true rfl, by refine GO.to (md_X10_and N) (kl := []) ((fun _ z => absurd z List.not_mem_nil)) 32 ?_ ?_ <;> rfl⟩
  cases hn
def T_X10_or : List (Nat × Ent) := [(0, .iload_n 1, 1, []), (1, .bipush 26, 3, []), (3, .if_icmp .eq 9, 6, [12]), (6, .iload_n 2, 7, []), (7, .bipush 26, 9, []), (9, .if_icmp .ne 8, 12, [17]), (12, .bipush 26, 14, []), (14, .goto 35, 17, [49]), (17, .iload_n 1, 18, []), (18, .bipush 25, 20, []), (20, .if_icmp .eq 8, 23, [28]), (23, .iload_n 1, 24, []), (24, .iload_n 2, 25, []), (25, .if_icmp .ne 7, 28, [32]), (28, .iload_n 2, 29, []), (29, .goto 20, 32, [49]), (32, .iload_n 2, 33, []), (33, .bipush 25, 35, []), (35, .if_icmp .ne 7, 38, [42]), (38, .iload_n 1, 39, []), (39, .goto 10, 42, [49]), (42, .aload_n 0, 43, []), (43, .iconst 2, 44, []), (44, .iload_n 1, 45, []), (45, .iload_n 2, 46, []), (46, .invokevirtual 195, 49, []), (49, .ireturn, 50, [])]
set_option maxRecDepth 200000 in
theorem tc_X10_or : T_X10_or.all (chk cX10_or) = true := by decide +kernel
def f_X10_or (N : Nat) (a1 : Int32) (a2 : Int32) (σ : Wd) : Option (Int32 × Wd) :=
  if a1 = 26 then (some (26, σ)) else (if a2 = 26 then (some (26, σ)) else (if a1 = 25 then (some (a2, σ)) else (if a1 = a2 then (some (a2, σ)) else (if a2 = 25 then (some (a1, σ)) else ((f_X10_gate N 2 a1 a2 σ).bind fun p1 => some (p1.1, p1.2))))))
def a_X10_or (N : Nat) : List Value → Wd → Option (Int32 × Wd) := fun as σ => kSE 41 as (fun r0 => kSI r0 (fun b1 r1 => kSI r1 (fun b2 r2 => kS0 r2 (f_X10_or N b1 b2 σ)))) (none)
def ct_X10_or (N : Nat) : List (Nat × Cal) := [(195, 4, 10, .inl (a_X10_gate N))]
set_option maxRecDepth 200000 in
theorem md_X10_or (N : Nat) : MDOK T_X10_or ft_X10 lt_X10 (ct_X10_or N) cX10_or RX10 2 := ⟨tc_X10_or, fc_X10, lc_X10, List.forall_mem_cons.mpr ⟨Or.inl ⟨yX10_gate, cX10_gate, 5, (some .int), 1, k_X10_195, Nat.le_of_ble_eq_true rfl, C_X10_gate N⟩, (fun _ z => absurd z List.not_mem_nil)⟩⟩
set_option maxRecDepth 200000 in
theorem C_X10_or (N : Nat) : CTI 2 yX10_or cX10_or 3 (some .int) (a_X10_or N) := by
  refine CTI.of (own := RX10) (by decide) rfl (fun as σ r h => ?_)
  unfold a_X10_or at h
  rcases kSE_s h with ⟨r0, rfl, h0⟩ | hn
  ·
    obtain ⟨b1, r1, rfl, h1⟩ := kSI_s h0
    obtain ⟨b2, r2, rfl, h2⟩ := kSI_s h1
    obtain ⟨rfl, h9⟩ := kS0_s h2
    exact ⟨Nat.le_of_ble_eq_true rfl, by refine GO.to (md_X10_or N) (kl := []) ((fun _ z => absurd z List.not_mem_nil)) 32 ?_ ?_ <;> rfl⟩
  cases hn
def T_X10_isWanted : List (Nat × Ent) := [(0, .iload_n 1, 1, []), (1, .iconst 1, 2, []), (2, .iand, 3, []), (3, .iload_n 1, 4, []), (4, .iconst 1, 5, []), (5, .ishr, 6, []), (6, .iconst 1, 7, []), (7, .iand, 8, []), (8, .iadd, 9, []), (9, .iload_n 1, 10, []), (10, .iconst 2, 11, []), (11, .ishr, 12, []), (12, .iconst 1, 13, []), (13, .iand, 14, []), (14, .iadd, 15, []), (15, .iload_n 1, 16, []), (16, .iconst 3, 17, []), (17, .ishr, 18, []), (18, .iconst 1, 19, []), (19, .iand, 20, []), (20, .iadd, 21, []), (21, .istore_n 3, 22, []), (22, .iload_n 0, 23, []), (23, .i2l, 24, []), (24, .lconst 1, 25, []), (25, .ldc2_w 140, 28, []), (28, .invokestatic 104, 31, []), (31, .ifCond .eq 43, 34, [74]), (34, .iload_n 1, 35, []), (35, .i2l, 36, []), (36, .lconst 1, 37, []), (37, .ldc2_w 321, 40, []), (40, .invokestatic 104, 43, []), (43, .ifCond .eq 31, 46, [74]), (46, .iload_n 3, 47, []), (47, .i2l, 48, []), (48, .lconst 1, 49, []), (49, .ldc2_w 323, 52, []), (52, .invokestatic 104, 55, []), (55, .ifCond .eq 19, 58, [74]), (58, .iload_n 2, 59, []), (59, .i2l, 60, []), (60, .lconst 0, 61, []), (61, .ldc2_w 299, 64, []), (64, .invokestatic 104, 67, []), (67, .ifCond .eq 7, 70, [74]), (70, .iconst 1, 71, []), (71, .goto 4, 74, [75]), (74, .iconst 0, 75, []), (75, .ireturn, 76, [])]
set_option maxRecDepth 200000 in
theorem tc_X10_isWanted : T_X10_isWanted.all (chk cX10_isWanted) = true := by decide +kernel
def f_X10_isWanted (N : Nat) (a0 : Int32) (a1 : Int32) (a2 : Int32) (σ : Wd) : Option (Int32 × Wd) :=
  (f_X10_in N (Int32.toInt64 a0) 1 6 σ).bind fun p1 => if p1.1 = 0 then (some (0, p1.2)) else ((f_X10_in N (Int32.toInt64 a1) 1 15 p1.2).bind fun p2 => if p2.1 = 0 then (some (0, p2.2)) else ((f_X10_in N (Int32.toInt64 ((((a1 &&& (1 : Int32)) + ((a1 >>> (1 &&& 31)) &&& (1 : Int32))) + ((a1 >>> (2 &&& 31)) &&& (1 : Int32))) + ((a1 >>> (3 &&& 31)) &&& (1 : Int32)))) 1 2 p2.2).bind fun p3 => if p3.1 = 0 then (some (0, p3.2)) else ((f_X10_in N (Int32.toInt64 a2) 0 999 p3.2).bind fun p4 => if p4.1 = 0 then (some (0, p4.2)) else (some (1, p4.2)))))
def a_X10_isWanted (N : Nat) : List Value → Wd → Option (Int32 × Wd) := fun as σ => kSI as (fun b0 r0 => kSI r0 (fun b1 r1 => kSI r1 (fun b2 r2 => kS0 r2 (f_X10_isWanted N b0 b1 b2 σ))))
def ct_X10_isWanted (N : Nat) : List (Nat × Cal) := [(104, 3, 0, .inl (a_X10_in N))]
set_option maxRecDepth 200000 in
theorem md_X10_isWanted (N : Nat) : MDOK T_X10_isWanted ft_X10 lt_X10 (ct_X10_isWanted N) cX10_isWanted RX10 2 := ⟨tc_X10_isWanted, fc_X10, lc_X10, List.forall_mem_cons.mpr ⟨Or.inl ⟨yX10_in, cX10_in, 6, (some .boolean), 1, k_X10_104, Nat.le_of_ble_eq_true rfl, C_X10_in N⟩, (fun _ z => absurd z List.not_mem_nil)⟩⟩
set_option maxRecDepth 200000 in
theorem C_X10_isWanted (N : Nat) : CTI 2 yX10_isWanted cX10_isWanted 4 (some .boolean) (a_X10_isWanted N) := by
  refine CTZ.of (own := RX10) (by decide) rfl (fun as σ r h => ?_)
  unfold a_X10_isWanted at h
  obtain ⟨b0, r0, rfl, h0⟩ := kSI_s h
  obtain ⟨b1, r1, rfl, h1⟩ := kSI_s h0
  obtain ⟨b2, r2, rfl, h2⟩ := kSI_s h1
  obtain ⟨rfl, h9⟩ := kS0_s h2
  exact ⟨Nat.le_of_ble_eq_true rfl, by refine GO.to (md_X10_isWanted N) (kl := []) ((fun _ z => absurd z List.not_mem_nil)) 55 ?_ ?_ <;> rfl⟩
def T_X10_longest : List (Nat × Ent) := [(0, .iload 4, 2, []), (2, .i2l, 3, []), (3, .lconst 1, 4, []), (4, .ldc2_w 338, 7, []), (7, .invokestatic 104, 10, []), (10, .ifCond .eq 56, 13, [66]), (13, .iload_n 1, 14, []), (14, .i2l, 15, []), (15, .lconst 0, 16, []), (16, .iconst 1, 17, []), (17, .iload 4, 19, []), (19, .ishl, 20, []), (20, .iconst 1, 21, []), (21, .isub, 22, []), (22, .i2l, 23, []), (23, .invokestatic 104, 26, []), (26, .ifCond .eq 40, 29, [66]), (29, .iload_n 2, 30, []), (30, .i2l, 31, []), (31, .lconst 0, 32, []), (32, .iconst 1, 33, []), (33, .iload 4, 35, []), (35, .ishl, 36, []), (36, .iconst 1, 37, []), (37, .isub, 38, []), (38, .i2l, 39, []), (39, .invokestatic 104, 42, []), (42, .ifCond .eq 24, 45, [66]), (45, .iload_n 3, 46, []), (46, .i2l, 47, []), (47, .lconst 0, 48, []), (48, .lconst 1, 49, []), (49, .invokestatic 104, 52, []), (52, .ifCond .eq 14, 55, [66]), (55, .iload 5, 57, []), (57, .i2l, 58, []), (58, .lconst 0, 59, []), (59, .lconst 1, 60, []), (60, .invokestatic 104, 63, []), (63, .ifCond .ne 5, 66, [68]), (66, .iconst (-1), 67, []), (67, .ireturn, 68, []), (68, .aload_n 0, 69, []), (69, .iconst (-1), 70, []), (70, .putfield 332, 73, []), (73, .aload_n 0, 74, []), (74, .iconst 0, 75, []), (75, .putfield 335, 78, []), (78, .iconst (-1), 79, []), (79, .istore 6, 81, []), (81, .iload 6, 83, []), (83, .iload 4, 85, []), (85, .if_icmp .ge 94, 88, [179]), (88, .iload 6, 90, []), (90, .ifCond .ge 16, 93, [106]), (93, .iload_n 3, 94, []), (94, .iconst 1, 95, []), (95, .if_icmp .ne 7, 98, [102]), (98, .iconst 1, 99, []), (99, .goto 15, 102, [114]), (102, .iconst 0, 103, []), (103, .goto 11, 106, [114]), (106, .iload_n 1, 107, []), (107, .iload_n 2, 108, []), (108, .iand, 109, []), (109, .iload 6, 111, []), (111, .invokestatic 269, 114, []), (114, .istore 7, 116, []), (116, .iload 6, 118, []), (118, .iconst 1, 119, []), (119, .iadd, 120, []), (120, .istore 8, 122, []), (122, .iload 8, 124, []), (124, .iload 4, 126, []), (126, .if_icmp .ge 20, 129, [146]), (129, .iload_n 1, 130, []), (130, .iload_n 2, 131, []), (131, .ixor, 132, []), (132, .iload 8, 134, []), (134, .invokestatic 269, 137, []), (137, .ifCond .eq 9, 140, [146]), (140, .iinc 8 1, 143, []), (143, .goto (-21), 146, [122]), (146, .iload 7, 148, []), (148, .ifCond .eq 25, 151, [173]), (151, .aload_n 0, 152, []), (152, .iload 8, 154, []), (154, .iload 6, 156, []), (156, .isub, 157, []), (157, .iconst 1, 158, []), (158, .isub, 159, []), (159, .iload 6, 161, []), (161, .ifCond .ge 7, 164, [168]), (164, .iconst 0, 165, []), (165, .goto 5, 168, [170]), (168, .iload 6, 170, []), (170, .invokevirtual 340, 173, []), (173, .iinc 6 1, 176, []), (176, .goto (-95), 179, [81]), (179, .iload 5, 181, []), (181, .ifCond .ne 21, 184, [202]), (184, .aload_n 0, 185, []), (185, .getfield 332, 188, []), (188, .ifCond .ge 7, 191, [195]), (191, .iconst 0, 192, []), (192, .goto 26, 195, [218]), (195, .aload_n 0, 196, []), (196, .getfield 332, 199, []), (199, .goto 19, 202, [218]), (202, .aload_n 0, 203, []), (203, .getfield 332, 206, []), (206, .ifCond .ge 8, 209, [214]), (209, .bipush (-2), 211, []), (211, .goto 7, 214, [218]), (214, .aload_n 0, 215, []), (215, .getfield 335, 218, []), (218, .ireturn, 219, [])]
set_option maxRecDepth 200000 in
theorem tc_X10_longest : T_X10_longest.all (chk cX10_longest) = true := by decide +kernel
def f_X10_longest_L122 (N : Nat) (KO146 : Int32 → Int32 → Int32 → Int32 → Int32 → Int32 → Int32 → Int32 → Wd → Option (Int32 × Wd)) : Nat → Int32 → Int32 → Int32 → Int32 → Int32 → Int32 → Int32 → Int32 → Wd → Option (Int32 × Wd)
  | 0, _, _, _, _, _, _, _, _, _ => none
  | n + 1, x1, x2, x3, x4, x5, x6, x7, x8, σ => if x4 ≤ x8 then (KO146 x1 x2 x3 x4 x5 x6 x7 x8 σ) else ((f_X10_has N (x1 ^^^ x2) x8 σ).bind fun p9 => if p9.1 = 0 then (KO146 x1 x2 x3 x4 x5 x6 x7 x8 p9.2) else (f_X10_longest_L122 N KO146 n x1 x2 x3 x4 x5 x6 x7 (x8 + 1) p9.2))
def f_X10_longest_J146 (N : Nat) (KB : Int32 → Int32 → Int32 → Int32 → Int32 → Int32 → Wd → Option (Int32 × Wd)) (KO179 : Int32 → Wd → Option (Int32 × Wd)) (x1 : Int32) (x2 : Int32) (x3 : Int32) (x4 : Int32) (x5 : Int32) (x6 : Int32) (x7 : Int32) (x8 : Int32) (σ : Wd) : Option (Int32 × Wd) :=
  if x7 = 0 then (KB x1 x2 x3 x4 x5 (x6 + 1) σ) else (if 0 ≤ x6 then ((f_X10_meets N ((x8 - x6) - 1) x6 σ).bind fun σ10 => KB x1 x2 x3 x4 x5 (x6 + 1) σ10) else ((f_X10_meets N ((x8 - x6) - 1) 0 σ).bind fun σ11 => KB x1 x2 x3 x4 x5 (x6 + 1) σ11))
def f_X10_longest_L81 (N : Nat) (KO179 : Int32 → Wd → Option (Int32 × Wd)) : Nat → Int32 → Int32 → Int32 → Int32 → Int32 → Int32 → Wd → Option (Int32 × Wd)
  | 0, _, _, _, _, _, _, _ => none
  | n + 1, x1, x2, x3, x4, x5, x6, σ => if x4 ≤ x6 then (KO179 x5 σ) else (if 0 ≤ x6 then ((f_X10_has N (x1 &&& x2) x6 σ).bind fun p8 => f_X10_longest_L122 N (f_X10_longest_J146 N (f_X10_longest_L81 N KO179 n) KO179) N x1 x2 x3 x4 x5 x6 p8.1 (x6 + 1) p8.2) else (if x3 = 1 then (f_X10_longest_L122 N (f_X10_longest_J146 N (f_X10_longest_L81 N KO179 n) KO179) N x1 x2 x3 x4 x5 x6 1 (x6 + 1) σ) else (f_X10_longest_L122 N (f_X10_longest_J146 N (f_X10_longest_L81 N KO179 n) KO179) N x1 x2 x3 x4 x5 x6 0 (x6 + 1) σ)))
def f_X10_longest_J179 (N : Nat) (x5 : Int32) (σ : Wd) : Option (Int32 × Wd) :=
  if x5 = 0 then (if 0 ≤ (σ.1 41 39) then (some (σ.1 41 39, σ)) else (some (0, σ))) else (if 0 ≤ (σ.1 41 39) then (some (σ.1 41 40, σ)) else (some ((-2), σ)))
def f_X10_longest (N : Nat) (a1 : Int32) (a2 : Int32) (a3 : Int32) (a4 : Int32) (a5 : Int32) (σ : Wd) : Option (Int32 × Wd) :=
  (f_X10_in N (Int32.toInt64 a4) 1 12 σ).bind fun p1 => if p1.1 = 0 then (some ((-1), p1.2)) else ((f_X10_in N (Int32.toInt64 a1) 0 (Int32.toInt64 ((1 <<< (a4 &&& 31)) - 1)) p1.2).bind fun p2 => if p2.1 = 0 then (some ((-1), p2.2)) else ((f_X10_in N (Int32.toInt64 a2) 0 (Int32.toInt64 ((1 <<< (a4 &&& 31)) - 1)) p2.2).bind fun p3 => if p3.1 = 0 then (some ((-1), p3.2)) else ((f_X10_in N (Int32.toInt64 a3) 0 1 p3.2).bind fun p4 => if p4.1 = 0 then (some ((-1), p4.2)) else ((f_X10_in N (Int32.toInt64 a5) 0 1 p4.2).bind fun p5 => if p5.1 = 0 then (some ((-1), p5.2)) else (let σ6 : Wd := sF p5.2 41 39 (-1)
  let σ7 : Wd := sF σ6 41 40 0
  f_X10_longest_L81 N (f_X10_longest_J179 N) N a1 a2 a3 a4 a5 (-1) σ7)))))
def a_X10_longest (N : Nat) : List Value → Wd → Option (Int32 × Wd) := fun as σ => kSE 41 as (fun r0 => kSI r0 (fun b1 r1 => kSI r1 (fun b2 r2 => kSI r2 (fun b3 r3 => kSI r3 (fun b4 r4 => kSI r4 (fun b5 r5 => kS0 r5 (f_X10_longest N b1 b2 b3 b4 b5 σ))))))) (none)
set_option maxRecDepth 200000 in
theorem k_X10_269 : calchk RX10 269 2 0 yX10_has cX10_has 2 (some .boolean) = true := by decide +kernel
set_option maxRecDepth 200000 in
theorem k_X10_340 : calchk RX10 340 3 10 yX10_meets cX10_meets 3 none = true := by decide +kernel
def ct_X10_longest (N : Nat) : List (Nat × Cal) := [(104, 3, 0, .inl (a_X10_in N)), (269, 2, 0, .inl (a_X10_has N)), (340, 3, 10, .inr (.inr (a_X10_meets N)))]
set_option maxRecDepth 200000 in
theorem md_X10_longest (N : Nat) : MDOK T_X10_longest ft_X10 lt_X10 (ct_X10_longest N) cX10_longest RX10 2 := ⟨tc_X10_longest, fc_X10, lc_X10, List.forall_mem_cons.mpr ⟨Or.inl ⟨yX10_in, cX10_in, 6, (some .boolean), 1, k_X10_104, Nat.le_of_ble_eq_true rfl, C_X10_in N⟩, List.forall_mem_cons.mpr ⟨Or.inl ⟨yX10_has, cX10_has, 2, (some .boolean), 1, k_X10_269, Nat.le_of_ble_eq_true rfl, C_X10_has N⟩, List.forall_mem_cons.mpr ⟨Or.inl ⟨yX10_meets, cX10_meets, 3, none, 1, k_X10_340, Nat.le_of_ble_eq_true rfl, C_X10_meets N⟩, (fun _ z => absurd z List.not_mem_nil)⟩⟩⟩⟩
set_option maxRecDepth 200000 in
theorem g_X10_longest_L122 (N : Nat) (KO146 : Int32 → Int32 → Int32 → Int32 → Int32 → Int32 → Int32 → Int32 → Wd → Option (Int32 × Wd)) (hKO146 : ∀ (x1 : Int32) (x2 : Int32) (x3 : Int32) (x4 : Int32) (x5 : Int32) (x6 : Int32) (x7 : Int32) (x8 : Int32) (σ : Wd), GO cX10_longest RX10 9 2 sc0 rI nJ0 nV0 (KO146 x1 x2 x3 x4 x5 x6 x7 x8 σ) 146 (mkp 0 9 [(0, .ref 41), (1, .int x1), (2, .int x2), (3, .int x3), (4, .int x4), (5, .int x5), (6, .int x6), (7, .int x7), (8, .int x8)]) [] σ) : ∀ (n : Nat), ∀ (x1 : Int32) (x2 : Int32) (x3 : Int32) (x4 : Int32) (x5 : Int32) (x6 : Int32) (x7 : Int32) (x8 : Int32) (σ : Wd), GO cX10_longest RX10 9 2 sc0 rI nJ0 nV0 (f_X10_longest_L122 N KO146 n x1 x2 x3 x4 x5 x6 x7 x8 σ) 122 (mkp 0 9 [(0, .ref 41), (1, .int x1), (2, .int x2), (3, .int x3), (4, .int x4), (5, .int x5), (6, .int x6), (7, .int x7), (8, .int x8)]) [] σ
  | 0, x1, x2, x3, x4, x5, x6, x7, x8, σ => GO.none
  | n + 1, x1, x2, x3, x4, x5, x6, x7, x8, σ => by
    exact (by refine GO.to (md_X10_longest N) (kl := [(146, fun vs st σ => kS0 st (kA 0 41 vs (kI 1 vs (fun x1 => kI 2 vs (fun x2 => kI 3 vs (fun x3 => kI 4 vs (fun x4 => kI 5 vs (fun x5 => kI 6 vs (fun x6 => kI 7 vs (fun x7 => kI 8 vs (fun x8 => KO146 x1 x2 x3 x4 x5 x6 x7 x8 σ))))))))))), (122, fun vs st σ => kS0 st (kA 0 41 vs (kI 1 vs (fun x1 => kI 2 vs (fun x2 => kI 3 vs (fun x3 => kI 4 vs (fun x4 => kI 5 vs (fun x5 => kI 6 vs (fun x6 => kI 7 vs (fun x7 => kI 8 vs (fun x8 => f_X10_longest_L122 N KO146 n x1 x2 x3 x4 x5 x6 x7 x8 σ)))))))))))]) (List.forall_mem_cons.mpr ⟨fun vs st σ => go_kS0 (go_kA (fun h0 => go_kI (fun x1 h1 => go_kI (fun x2 h2 => go_kI (fun x3 h3 => go_kI (fun x4 h4 => go_kI (fun x5 h5 => go_kI (fun x6 h6 => go_kI (fun x7 h7 => go_kI (fun x8 h8 => GO.pat [(0, .ref 41), (1, .int x1), (2, .int x2), (3, .int x3), (4, .int x4), (5, .int x5), (6, .int x6), (7, .int x7), (8, .int x8)] ⟨h0, h1, h2, h3, h4, h5, h6, h7, h8, trivial⟩ (hKO146 x1 x2 x3 x4 x5 x6 x7 x8 σ))))))))))), List.forall_mem_cons.mpr ⟨fun vs st σ => go_kS0 (go_kA (fun h0 => go_kI (fun x1 h1 => go_kI (fun x2 h2 => go_kI (fun x3 h3 => go_kI (fun x4 h4 => go_kI (fun x5 h5 => go_kI (fun x6 h6 => go_kI (fun x7 h7 => go_kI (fun x8 h8 => GO.pat [(0, .ref 41), (1, .int x1), (2, .int x2), (3, .int x3), (4, .int x4), (5, .int x5), (6, .int x6), (7, .int x7), (8, .int x8)] ⟨h0, h1, h2, h3, h4, h5, h6, h7, h8, trivial⟩ (g_X10_longest_L122 N KO146 hKO146 n x1 x2 x3 x4 x5 x6 x7 x8 σ))))))))))), (fun _ z => absurd z List.not_mem_nil)⟩⟩) 122 ?_ ?_ <;> rfl)
set_option maxRecDepth 200000 in
theorem g_X10_longest_J146 (N : Nat) (KB : Int32 → Int32 → Int32 → Int32 → Int32 → Int32 → Wd → Option (Int32 × Wd)) (hKB : ∀ (x1 : Int32) (x2 : Int32) (x3 : Int32) (x4 : Int32) (x5 : Int32) (x6 : Int32) (σ : Wd), GO cX10_longest RX10 9 2 sc0 rI nJ0 nV0 (KB x1 x2 x3 x4 x5 x6 σ) 81 (mkp 0 9 [(0, .ref 41), (1, .int x1), (2, .int x2), (3, .int x3), (4, .int x4), (5, .int x5), (6, .int x6)]) [] σ) (KO179 : Int32 → Wd → Option (Int32 × Wd)) (hKO179 : ∀ (x5 : Int32) (σ : Wd), GO cX10_longest RX10 9 2 sc0 rI nJ0 nV0 (KO179 x5 σ) 179 (mkp 0 9 [(0, .ref 41), (5, .int x5)]) [] σ) (x1 : Int32) (x2 : Int32) (x3 : Int32) (x4 : Int32) (x5 : Int32) (x6 : Int32) (x7 : Int32) (x8 : Int32) (σ : Wd) : GO cX10_longest RX10 9 2 sc0 rI nJ0 nV0 (f_X10_longest_J146 N KB KO179 x1 x2 x3 x4 x5 x6 x7 x8 σ) 146 (mkp 0 9 [(0, .ref 41), (1, .int x1), (2, .int x2), (3, .int x3), (4, .int x4), (5, .int x5), (6, .int x6), (7, .int x7), (8, .int x8)]) [] σ := by
  exact (by refine GO.to (md_X10_longest N) (kl := [(81, fun vs st σ => kS0 st (kA 0 41 vs (kI 1 vs (fun x1 => kI 2 vs (fun x2 => kI 3 vs (fun x3 => kI 4 vs (fun x4 => kI 5 vs (fun x5 => kI 6 vs (fun x6 => KB x1 x2 x3 x4 x5 x6 σ)))))))))]) (List.forall_mem_cons.mpr ⟨fun vs st σ => go_kS0 (go_kA (fun h0 => go_kI (fun x1 h1 => go_kI (fun x2 h2 => go_kI (fun x3 h3 => go_kI (fun x4 h4 => go_kI (fun x5 h5 => go_kI (fun x6 h6 => GO.pat [(0, .ref 41), (1, .int x1), (2, .int x2), (3, .int x3), (4, .int x4), (5, .int x5), (6, .int x6)] ⟨h0, h1, h2, h3, h4, h5, h6, trivial⟩ (hKB x1 x2 x3 x4 x5 x6 σ))))))))), (fun _ z => absurd z List.not_mem_nil)⟩) 122 ?_ ?_ <;> rfl)
set_option maxRecDepth 200000 in
theorem g_X10_longest_L81 (N : Nat) (KO179 : Int32 → Wd → Option (Int32 × Wd)) (hKO179 : ∀ (x5 : Int32) (σ : Wd), GO cX10_longest RX10 9 2 sc0 rI nJ0 nV0 (KO179 x5 σ) 179 (mkp 0 9 [(0, .ref 41), (5, .int x5)]) [] σ) : ∀ (n : Nat), ∀ (x1 : Int32) (x2 : Int32) (x3 : Int32) (x4 : Int32) (x5 : Int32) (x6 : Int32) (σ : Wd), GO cX10_longest RX10 9 2 sc0 rI nJ0 nV0 (f_X10_longest_L81 N KO179 n x1 x2 x3 x4 x5 x6 σ) 81 (mkp 0 9 [(0, .ref 41), (1, .int x1), (2, .int x2), (3, .int x3), (4, .int x4), (5, .int x5), (6, .int x6)]) [] σ
  | 0, x1, x2, x3, x4, x5, x6, σ => GO.none
  | n + 1, x1, x2, x3, x4, x5, x6, σ => by
    exact (by refine GO.to (md_X10_longest N) (kl := [(179, fun vs st σ => kS0 st (kA 0 41 vs (kI 5 vs (fun x5 => KO179 x5 σ)))), (122, fun vs st σ => kS0 st (kA 0 41 vs (kI 1 vs (fun x1 => kI 2 vs (fun x2 => kI 3 vs (fun x3 => kI 4 vs (fun x4 => kI 5 vs (fun x5 => kI 6 vs (fun x6 => kI 7 vs (fun x7 => kI 8 vs (fun x8 => f_X10_longest_L122 N (f_X10_longest_J146 N (f_X10_longest_L81 N KO179 n) KO179) N x1 x2 x3 x4 x5 x6 x7 x8 σ)))))))))))]) (List.forall_mem_cons.mpr ⟨fun vs st σ => go_kS0 (go_kA (fun h0 => go_kI (fun x5 h5 => GO.pat [(0, .ref 41), (5, .int x5)] ⟨h0, h5, trivial⟩ (hKO179 x5 σ)))), List.forall_mem_cons.mpr ⟨fun vs st σ => go_kS0 (go_kA (fun h0 => go_kI (fun x1 h1 => go_kI (fun x2 h2 => go_kI (fun x3 h3 => go_kI (fun x4 h4 => go_kI (fun x5 h5 => go_kI (fun x6 h6 => go_kI (fun x7 h7 => go_kI (fun x8 h8 => GO.pat [(0, .ref 41), (1, .int x1), (2, .int x2), (3, .int x3), (4, .int x4), (5, .int x5), (6, .int x6), (7, .int x7), (8, .int x8)] ⟨h0, h1, h2, h3, h4, h5, h6, h7, h8, trivial⟩ (g_X10_longest_L122 N (f_X10_longest_J146 N (f_X10_longest_L81 N KO179 n) KO179) (g_X10_longest_J146 N (f_X10_longest_L81 N KO179 n) (g_X10_longest_L81 N KO179 hKO179 n) KO179 hKO179) N x1 x2 x3 x4 x5 x6 x7 x8 σ))))))))))), (fun _ z => absurd z List.not_mem_nil)⟩⟩) 122 ?_ ?_ <;> rfl)
set_option maxRecDepth 200000 in
theorem g_X10_longest_J179 (N : Nat) (x5 : Int32) (σ : Wd) : GO cX10_longest RX10 9 2 sc0 rI nJ0 nV0 (f_X10_longest_J179 N x5 σ) 179 (mkp 0 9 [(0, .ref 41), (5, .int x5)]) [] σ := by
  exact (by refine GO.to (md_X10_longest N) (kl := []) ((fun _ z => absurd z List.not_mem_nil)) 122 ?_ ?_ <;> rfl)
set_option maxRecDepth 200000 in
theorem C_X10_longest (N : Nat) : CTI 2 yX10_longest cX10_longest 9 (some .int) (a_X10_longest N) := by
  refine CTI.of (own := RX10) (by decide) rfl (fun as σ r h => ?_)
  unfold a_X10_longest at h
  rcases kSE_s h with ⟨r0, rfl, h0⟩ | hn
  ·
    obtain ⟨b1, r1, rfl, h1⟩ := kSI_s h0
    obtain ⟨b2, r2, rfl, h2⟩ := kSI_s h1
    obtain ⟨b3, r3, rfl, h3⟩ := kSI_s h2
    obtain ⟨b4, r4, rfl, h4⟩ := kSI_s h3
    obtain ⟨b5, r5, rfl, h5⟩ := kSI_s h4
    obtain ⟨rfl, h9⟩ := kS0_s h5
    exact ⟨Nat.le_of_ble_eq_true rfl, by refine GO.to (md_X10_longest N) (kl := [(81, fun vs st σ => kS0 st (kA 0 41 vs (kI 1 vs (fun x1 => kI 2 vs (fun x2 => kI 3 vs (fun x3 => kI 4 vs (fun x4 => kI 5 vs (fun x5 => kI 6 vs (fun x6 => f_X10_longest_L81 N (f_X10_longest_J179 N) N x1 x2 x3 x4 x5 x6 σ)))))))))]) (List.forall_mem_cons.mpr ⟨fun vs st σ => go_kS0 (go_kA (fun h0 => go_kI (fun x1 h1 => go_kI (fun x2 h2 => go_kI (fun x3 h3 => go_kI (fun x4 h4 => go_kI (fun x5 h5 => go_kI (fun x6 h6 => GO.pat [(0, .ref 41), (1, .int x1), (2, .int x2), (3, .int x3), (4, .int x4), (5, .int x5), (6, .int x6)] ⟨h0, h1, h2, h3, h4, h5, h6, trivial⟩ (g_X10_longest_L81 N (f_X10_longest_J179 N) (g_X10_longest_J179 N) N x1 x2 x3 x4 x5 x6 σ))))))))), (fun _ z => absurd z List.not_mem_nil)⟩) 122 ?_ ?_ <;> rfl⟩
  cases hn
def T_X10_runs : List (Nat × Ent) := [(0, .iload_n 1, 1, []), (1, .i2l, 2, []), (2, .lconst 1, 3, []), (3, .ldc2_w 338, 6, []), (6, .invokestatic 104, 9, []), (9, .ifCond .eq 15, 12, [24]), (12, .iload_n 2, 13, []), (13, .i2l, 14, []), (14, .lconst 0, 15, []), (15, .ldc2_w 338, 18, []), (18, .invokestatic 104, 21, []), (21, .ifCond .ne 7, 24, [28]), (24, .ldc2_w 343, 27, []), (27, .lreturn, 28, []), (28, .iconst 0, 29, []), (29, .istore_n 3, 30, []), (30, .iload_n 3, 31, []), (31, .bipush 13, 33, []), (33, .if_icmp .gt 24, 36, [57]), (36, .aload_n 0, 37, []), (37, .getfield 81, 40, []), (40, .iload_n 3, 41, []), (41, .iload_n 3, 42, []), (42, .ifCond .ne 7, 45, [49]), (45, .lconst 1, 46, []), (46, .goto 4, 49, [50]), (49, .lconst 0, 50, []), (50, .lastore, 51, []), (51, .iinc 3 1, 54, []), (54, .goto (-24), 57, [30]), (57, .iconst 0, 58, []), (58, .istore_n 3, 59, []), (59, .iload_n 3, 60, []), (60, .iload_n 1, 61, []), (61, .if_icmp .ge 135, 64, [196]), (64, .lconst 0, 65, []), (65, .lstore 4, 67, []), (67, .iconst 0, 68, []), (68, .istore 6, 70, []), (70, .iload 6, 72, []), (72, .bipush 13, 74, []), (74, .if_icmp .gt 59, 77, [133]), (77, .lload 4, 79, []), (79, .aload_n 0, 80, []), (80, .getfield 81, 83, []), (83, .iload 6, 85, []), (85, .laload, 86, []), (86, .ladd, 87, []), (87, .lstore 4, 89, []), (89, .aload_n 0, 90, []), (90, .getfield 85, 93, []), (93, .iload 6, 95, []), (95, .iload 6, 97, []), (97, .iconst 1, 98, []), (98, .if_icmp .le 27, 101, [125]), (101, .iload 6, 103, []), (103, .iload_n 2, 104, []), (104, .iconst 1, 105, []), (105, .iadd, 106, []), (106, .if_icmp .gt 19, 109, [125]), (109, .ldc2_w 323, 112, []), (112, .aload_n 0, 113, []), (113, .getfield 81, 116, []), (116, .iload 6, 118, []), (118, .iconst 1, 119, []), (119, .isub, 120, []), (120, .laload, 121, []), (121, .lmul, 122, []), (122, .goto 4, 125, [126]), (125, .lconst 0, 126, []), (126, .lastore, 127, []), (127, .iinc 6 1, 130, []), (130, .goto (-60), 133, [70]), (133, .aload_n 0, 134, []), (134, .getfield 85, 137, []), (137, .iconst 0, 138, []), (138, .ldc2_w 323, 141, []), (141, .aload_n 0, 142, []), (142, .getfield 81, 145, []), (145, .iconst 0, 146, []), (146, .laload, 147, []), (147, .lmul, 148, []), (148, .lload 4, 150, []), (150, .ladd, 151, []), (151, .lastore, 152, []), (152, .aload_n 0, 153, []), (153, .getfield 85, 156, []), (156, .iconst 1, 157, []), (157, .lload 4, 159, []), (159, .lastore, 160, []), (160, .iconst 0, 161, []), (161, .istore 6, 163, []), (163, .iload 6, 165, []), (165, .bipush 13, 167, []), (167, .if_icmp .gt 23, 170, [190]), (170, .aload_n 0, 171, []), (171, .getfield 81, 174, []), (174, .iload 6, 176, []), (176, .aload_n 0, 177, []), (177, .getfield 85, 180, []), (180, .iload 6, 182, []), (182, .laload, 183, []), (183, .lastore, 184, []), (184, .iinc 6 1, 187, []), (187, .goto (-24), 190, [163]), (190, .iinc 3 1, 193, []), (193, .goto (-134), 196, [59]), (196, .lconst 0, 197, []), (197, .lstore_n 3, 198, []), (198, .iconst 0, 199, []), (199, .istore 5, 201, []), (201, .iload 5, 203, []), (203, .bipush 13, 205, []), (205, .if_icmp .gt 19, 208, [224]), (208, .lload_n 3, 209, []), (209, .aload_n 0, 210, []), (210, .getfield 81, 213, []), (213, .iload 5, 215, []), (215, .laload, 216, []), (216, .ladd, 217, []), (217, .lstore_n 3, 218, []), (218, .iinc 5 1, 221, []), (221, .goto (-20), 224, [201]), (224, .lload_n 3, 225, []), (225, .lreturn, 226, [])]
set_option maxRecDepth 200000 in
theorem tc_X10_runs : T_X10_runs.all (chk cX10_runs) = true := by decide +kernel
def f_X10_runs_L30 (N : Nat) (KO57 : Int32 → Int32 → Wd → Option (Int64 × Wd)) : Nat → Int32 → Int32 → Int32 → Wd → Option (Int64 × Wd)
  | 0, _, _, _, _ => none
  | n + 1, x1, x2, x3, σ => if 13 < x3 then (KO57 x1 x2 σ) else (if x3 = 0 then ((xstL σ 65 14 x3 1).bind fun σ3 => f_X10_runs_L30 N KO57 n x1 x2 (x3 + 1) σ3) else ((xstL σ 65 14 x3 0).bind fun σ4 => f_X10_runs_L30 N KO57 n x1 x2 (x3 + 1) σ4))
def f_X10_runs_L70 (N : Nat) (KO133 : Int32 → Int32 → Int32 → Int64 → Wd → Option (Int64 × Wd)) : Nat → Int32 → Int32 → Int32 → Int64 → Int32 → Wd → Option (Int64 × Wd)
  | 0, _, _, _, _, _, _ => none
  | n + 1, x1, x2, x3, x4, x6, σ => if 13 < x6 then (KO133 x1 x2 x3 x4 σ) else ((xldL σ 65 14 x6).bind fun v5 => if x6 ≤ 1 then ((xstL σ 66 14 x6 0).bind fun σ6 => f_X10_runs_L70 N KO133 n x1 x2 x3 (x4 + v5) (x6 + 1) σ6) else (if (x2 + 1) < x6 then ((xstL σ 66 14 x6 0).bind fun σ7 => f_X10_runs_L70 N KO133 n x1 x2 x3 (x4 + v5) (x6 + 1) σ7) else ((xldL σ 65 14 (x6 - 1)).bind fun v8 => (xstL σ 66 14 x6 (2 * v8)).bind fun σ9 => f_X10_runs_L70 N KO133 n x1 x2 x3 (x4 + v5) (x6 + 1) σ9)))
def f_X10_runs_L163 (N : Nat) (KO190 : Int32 → Int32 → Int32 → Wd → Option (Int64 × Wd)) : Nat → Int32 → Int32 → Int32 → Int32 → Wd → Option (Int64 × Wd)
  | 0, _, _, _, _, _ => none
  | n + 1, x1, x2, x3, x6, σ => if 13 < x6 then (KO190 x1 x2 x3 σ) else ((xldL σ 66 14 x6).bind fun v13 => (xstL σ 65 14 x6 v13).bind fun σ14 => f_X10_runs_L163 N KO190 n x1 x2 x3 (x6 + 1) σ14)
def f_X10_runs_J190 (N : Nat) (KB : Int32 → Int32 → Int32 → Wd → Option (Int64 × Wd)) (KO196 : Wd → Option (Int64 × Wd)) (x1 : Int32) (x2 : Int32) (x3 : Int32) (σ : Wd) : Option (Int64 × Wd) :=
  KB x1 x2 (x3 + 1) σ
def f_X10_runs_J133 (N : Nat) (KB : Int32 → Int32 → Int32 → Wd → Option (Int64 × Wd)) (KO196 : Wd → Option (Int64 × Wd)) (x1 : Int32) (x2 : Int32) (x3 : Int32) (x4 : Int64) (σ : Wd) : Option (Int64 × Wd) :=
  (xldL σ 65 14 0).bind fun v10 => (xstL σ 66 14 0 ((2 * v10) + x4)).bind fun σ11 => (xstL σ11 66 14 1 x4).bind fun σ12 => f_X10_runs_L163 N (f_X10_runs_J190 N KB KO196) N x1 x2 x3 0 σ12
def f_X10_runs_L59 (N : Nat) (KO196 : Wd → Option (Int64 × Wd)) : Nat → Int32 → Int32 → Int32 → Wd → Option (Int64 × Wd)
  | 0, _, _, _, _ => none
  | n + 1, x1, x2, x3, σ => if x1 ≤ x3 then (KO196 σ) else (f_X10_runs_L70 N (f_X10_runs_J133 N (f_X10_runs_L59 N KO196 n) KO196) N x1 x2 x3 0 0 σ)
def f_X10_runs_L201 (N : Nat) (KO224 : Int64 → Wd → Option (Int64 × Wd)) : Nat → Int64 → Int32 → Wd → Option (Int64 × Wd)
  | 0, _, _, _ => none
  | n + 1, x3, x5, σ => if 13 < x5 then (KO224 x3 σ) else ((xldL σ 65 14 x5).bind fun v15 => f_X10_runs_L201 N KO224 n (x3 + v15) (x5 + 1) σ)
def f_X10_runs_J224 (N : Nat) (x3 : Int64) (σ : Wd) : Option (Int64 × Wd) :=
  some (x3, σ)
def f_X10_runs_J196 (N : Nat) (σ : Wd) : Option (Int64 × Wd) :=
  f_X10_runs_L201 N (f_X10_runs_J224 N) N 0 0 σ
def f_X10_runs_J57 (N : Nat) (x1 : Int32) (x2 : Int32) (σ : Wd) : Option (Int64 × Wd) :=
  f_X10_runs_L59 N (f_X10_runs_J196 N) N x1 x2 0 σ
def f_X10_runs (N : Nat) (a1 : Int32) (a2 : Int32) (σ : Wd) : Option (Int64 × Wd) :=
  (f_X10_in N (Int32.toInt64 a1) 1 12 σ).bind fun p1 => if p1.1 = 0 then (some ((-9223372036854775808), p1.2)) else ((f_X10_in N (Int32.toInt64 a2) 0 12 p1.2).bind fun p2 => if p2.1 = 0 then (some ((-9223372036854775808), p2.2)) else (f_X10_runs_L30 N (f_X10_runs_J57 N) N a1 a2 0 p2.2))
def a_X10_runs (N : Nat) : List Value → Wd → Option (Int64 × Wd) := fun as σ => kSE 41 as (fun r0 => kSI r0 (fun b1 r1 => kSI r1 (fun b2 r2 => kS0 r2 (f_X10_runs N b1 b2 σ)))) (none)
def ct_X10_runs (N : Nat) : List (Nat × Cal) := [(104, 3, 0, .inl (a_X10_in N))]
set_option maxRecDepth 200000 in
theorem md_X10_runs (N : Nat) : MDOK T_X10_runs ft_X10 lt_X10 (ct_X10_runs N) cX10_runs RX10 2 := ⟨tc_X10_runs, fc_X10, lc_X10, List.forall_mem_cons.mpr ⟨Or.inl ⟨yX10_in, cX10_in, 6, (some .boolean), 1, k_X10_104, Nat.le_of_ble_eq_true rfl, C_X10_in N⟩, (fun _ z => absurd z List.not_mem_nil)⟩⟩
set_option maxRecDepth 200000 in
theorem g_X10_runs_L30 (N : Nat) (KO57 : Int32 → Int32 → Wd → Option (Int64 × Wd)) (hKO57 : ∀ (x1 : Int32) (x2 : Int32) (σ : Wd), GO cX10_runs RX10 7 2 sc0 nI0 rJ nV0 (KO57 x1 x2 σ) 57 (mkp 0 7 [(0, .ref 41), (1, .int x1), (2, .int x2)]) [] σ) : ∀ (n : Nat), ∀ (x1 : Int32) (x2 : Int32) (x3 : Int32) (σ : Wd), GO cX10_runs RX10 7 2 sc0 nI0 rJ nV0 (f_X10_runs_L30 N KO57 n x1 x2 x3 σ) 30 (mkp 0 7 [(0, .ref 41), (1, .int x1), (2, .int x2), (3, .int x3)]) [] σ
  | 0, x1, x2, x3, σ => GO.none
  | n + 1, x1, x2, x3, σ => by
    exact (by refine GO.to (md_X10_runs N) (kl := [(57, fun vs st σ => kS0 st (kA 0 41 vs (kI 1 vs (fun x1 => kI 2 vs (fun x2 => KO57 x1 x2 σ))))), (30, fun vs st σ => kS0 st (kA 0 41 vs (kI 1 vs (fun x1 => kI 2 vs (fun x2 => kI 3 vs (fun x3 => f_X10_runs_L30 N KO57 n x1 x2 x3 σ))))))]) (List.forall_mem_cons.mpr ⟨fun vs st σ => go_kS0 (go_kA (fun h0 => go_kI (fun x1 h1 => go_kI (fun x2 h2 => GO.pat [(0, .ref 41), (1, .int x1), (2, .int x2)] ⟨h0, h1, h2, trivial⟩ (hKO57 x1 x2 σ))))), List.forall_mem_cons.mpr ⟨fun vs st σ => go_kS0 (go_kA (fun h0 => go_kI (fun x1 h1 => go_kI (fun x2 h2 => go_kI (fun x3 h3 => GO.pat [(0, .ref 41), (1, .int x1), (2, .int x2), (3, .int x3)] ⟨h0, h1, h2, h3, trivial⟩ (g_X10_runs_L30 N KO57 hKO57 n x1 x2 x3 σ)))))), (fun _ z => absurd z List.not_mem_nil)⟩⟩) 130 ?_ ?_ <;> rfl)
set_option maxRecDepth 200000 in
theorem g_X10_runs_L70 (N : Nat) (KO133 : Int32 → Int32 → Int32 → Int64 → Wd → Option (Int64 × Wd)) (hKO133 : ∀ (x1 : Int32) (x2 : Int32) (x3 : Int32) (x4 : Int64) (σ : Wd), GO cX10_runs RX10 7 2 sc0 nI0 rJ nV0 (KO133 x1 x2 x3 x4 σ) 133 (mkp 0 7 [(0, .ref 41), (1, .int x1), (2, .int x2), (3, .int x3), (4, .long x4)]) [] σ) : ∀ (n : Nat), ∀ (x1 : Int32) (x2 : Int32) (x3 : Int32) (x4 : Int64) (x6 : Int32) (σ : Wd), GO cX10_runs RX10 7 2 sc0 nI0 rJ nV0 (f_X10_runs_L70 N KO133 n x1 x2 x3 x4 x6 σ) 70 (mkp 0 7 [(0, .ref 41), (1, .int x1), (2, .int x2), (3, .int x3), (4, .long x4), (6, .int x6)]) [] σ
  | 0, x1, x2, x3, x4, x6, σ => GO.none
  | n + 1, x1, x2, x3, x4, x6, σ => by
    exact (by refine GO.to (md_X10_runs N) (kl := [(133, fun vs st σ => kS0 st (kA 0 41 vs (kI 1 vs (fun x1 => kI 2 vs (fun x2 => kI 3 vs (fun x3 => kJ 4 vs (fun x4 => KO133 x1 x2 x3 x4 σ))))))), (70, fun vs st σ => kS0 st (kA 0 41 vs (kI 1 vs (fun x1 => kI 2 vs (fun x2 => kI 3 vs (fun x3 => kJ 4 vs (fun x4 => kI 6 vs (fun x6 => f_X10_runs_L70 N KO133 n x1 x2 x3 x4 x6 σ))))))))]) (List.forall_mem_cons.mpr ⟨fun vs st σ => go_kS0 (go_kA (fun h0 => go_kI (fun x1 h1 => go_kI (fun x2 h2 => go_kI (fun x3 h3 => go_kJ (fun x4 h4 => GO.pat [(0, .ref 41), (1, .int x1), (2, .int x2), (3, .int x3), (4, .long x4)] ⟨h0, h1, h2, h3, h4, trivial⟩ (hKO133 x1 x2 x3 x4 σ))))))), List.forall_mem_cons.mpr ⟨fun vs st σ => go_kS0 (go_kA (fun h0 => go_kI (fun x1 h1 => go_kI (fun x2 h2 => go_kI (fun x3 h3 => go_kJ (fun x4 h4 => go_kI (fun x6 h6 => GO.pat [(0, .ref 41), (1, .int x1), (2, .int x2), (3, .int x3), (4, .long x4), (6, .int x6)] ⟨h0, h1, h2, h3, h4, h6, trivial⟩ (g_X10_runs_L70 N KO133 hKO133 n x1 x2 x3 x4 x6 σ)))))))), (fun _ z => absurd z List.not_mem_nil)⟩⟩) 130 ?_ ?_ <;> rfl)
set_option maxRecDepth 200000 in
theorem g_X10_runs_L163 (N : Nat) (KO190 : Int32 → Int32 → Int32 → Wd → Option (Int64 × Wd)) (hKO190 : ∀ (x1 : Int32) (x2 : Int32) (x3 : Int32) (σ : Wd), GO cX10_runs RX10 7 2 sc0 nI0 rJ nV0 (KO190 x1 x2 x3 σ) 190 (mkp 0 7 [(0, .ref 41), (1, .int x1), (2, .int x2), (3, .int x3)]) [] σ) : ∀ (n : Nat), ∀ (x1 : Int32) (x2 : Int32) (x3 : Int32) (x6 : Int32) (σ : Wd), GO cX10_runs RX10 7 2 sc0 nI0 rJ nV0 (f_X10_runs_L163 N KO190 n x1 x2 x3 x6 σ) 163 (mkp 0 7 [(0, .ref 41), (1, .int x1), (2, .int x2), (3, .int x3), (6, .int x6)]) [] σ
  | 0, x1, x2, x3, x6, σ => GO.none
  | n + 1, x1, x2, x3, x6, σ => by
    exact (by refine GO.to (md_X10_runs N) (kl := [(190, fun vs st σ => kS0 st (kA 0 41 vs (kI 1 vs (fun x1 => kI 2 vs (fun x2 => kI 3 vs (fun x3 => KO190 x1 x2 x3 σ)))))), (163, fun vs st σ => kS0 st (kA 0 41 vs (kI 1 vs (fun x1 => kI 2 vs (fun x2 => kI 3 vs (fun x3 => kI 6 vs (fun x6 => f_X10_runs_L163 N KO190 n x1 x2 x3 x6 σ)))))))]) (List.forall_mem_cons.mpr ⟨fun vs st σ => go_kS0 (go_kA (fun h0 => go_kI (fun x1 h1 => go_kI (fun x2 h2 => go_kI (fun x3 h3 => GO.pat [(0, .ref 41), (1, .int x1), (2, .int x2), (3, .int x3)] ⟨h0, h1, h2, h3, trivial⟩ (hKO190 x1 x2 x3 σ)))))), List.forall_mem_cons.mpr ⟨fun vs st σ => go_kS0 (go_kA (fun h0 => go_kI (fun x1 h1 => go_kI (fun x2 h2 => go_kI (fun x3 h3 => go_kI (fun x6 h6 => GO.pat [(0, .ref 41), (1, .int x1), (2, .int x2), (3, .int x3), (6, .int x6)] ⟨h0, h1, h2, h3, h6, trivial⟩ (g_X10_runs_L163 N KO190 hKO190 n x1 x2 x3 x6 σ))))))), (fun _ z => absurd z List.not_mem_nil)⟩⟩) 130 ?_ ?_ <;> rfl)
set_option maxRecDepth 200000 in
theorem g_X10_runs_J190 (N : Nat) (KB : Int32 → Int32 → Int32 → Wd → Option (Int64 × Wd)) (hKB : ∀ (x1 : Int32) (x2 : Int32) (x3 : Int32) (σ : Wd), GO cX10_runs RX10 7 2 sc0 nI0 rJ nV0 (KB x1 x2 x3 σ) 59 (mkp 0 7 [(0, .ref 41), (1, .int x1), (2, .int x2), (3, .int x3)]) [] σ) (KO196 : Wd → Option (Int64 × Wd)) (hKO196 : ∀ (σ : Wd), GO cX10_runs RX10 7 2 sc0 nI0 rJ nV0 (KO196 σ) 196 (mkp 0 7 [(0, .ref 41)]) [] σ) (x1 : Int32) (x2 : Int32) (x3 : Int32) (σ : Wd) : GO cX10_runs RX10 7 2 sc0 nI0 rJ nV0 (f_X10_runs_J190 N KB KO196 x1 x2 x3 σ) 190 (mkp 0 7 [(0, .ref 41), (1, .int x1), (2, .int x2), (3, .int x3)]) [] σ := by
  exact (by refine GO.to (md_X10_runs N) (kl := [(59, fun vs st σ => kS0 st (kA 0 41 vs (kI 1 vs (fun x1 => kI 2 vs (fun x2 => kI 3 vs (fun x3 => KB x1 x2 x3 σ))))))]) (List.forall_mem_cons.mpr ⟨fun vs st σ => go_kS0 (go_kA (fun h0 => go_kI (fun x1 h1 => go_kI (fun x2 h2 => go_kI (fun x3 h3 => GO.pat [(0, .ref 41), (1, .int x1), (2, .int x2), (3, .int x3)] ⟨h0, h1, h2, h3, trivial⟩ (hKB x1 x2 x3 σ)))))), (fun _ z => absurd z List.not_mem_nil)⟩) 130 ?_ ?_ <;> rfl)
set_option maxRecDepth 200000 in
theorem g_X10_runs_J133 (N : Nat) (KB : Int32 → Int32 → Int32 → Wd → Option (Int64 × Wd)) (hKB : ∀ (x1 : Int32) (x2 : Int32) (x3 : Int32) (σ : Wd), GO cX10_runs RX10 7 2 sc0 nI0 rJ nV0 (KB x1 x2 x3 σ) 59 (mkp 0 7 [(0, .ref 41), (1, .int x1), (2, .int x2), (3, .int x3)]) [] σ) (KO196 : Wd → Option (Int64 × Wd)) (hKO196 : ∀ (σ : Wd), GO cX10_runs RX10 7 2 sc0 nI0 rJ nV0 (KO196 σ) 196 (mkp 0 7 [(0, .ref 41)]) [] σ) (x1 : Int32) (x2 : Int32) (x3 : Int32) (x4 : Int64) (σ : Wd) : GO cX10_runs RX10 7 2 sc0 nI0 rJ nV0 (f_X10_runs_J133 N KB KO196 x1 x2 x3 x4 σ) 133 (mkp 0 7 [(0, .ref 41), (1, .int x1), (2, .int x2), (3, .int x3), (4, .long x4)]) [] σ := by
  exact (by refine GO.to (md_X10_runs N) (kl := [(163, fun vs st σ => kS0 st (kA 0 41 vs (kI 1 vs (fun x1 => kI 2 vs (fun x2 => kI 3 vs (fun x3 => kI 6 vs (fun x6 => f_X10_runs_L163 N (f_X10_runs_J190 N KB KO196) N x1 x2 x3 x6 σ)))))))]) (List.forall_mem_cons.mpr ⟨fun vs st σ => go_kS0 (go_kA (fun h0 => go_kI (fun x1 h1 => go_kI (fun x2 h2 => go_kI (fun x3 h3 => go_kI (fun x6 h6 => GO.pat [(0, .ref 41), (1, .int x1), (2, .int x2), (3, .int x3), (6, .int x6)] ⟨h0, h1, h2, h3, h6, trivial⟩ (g_X10_runs_L163 N (f_X10_runs_J190 N KB KO196) (g_X10_runs_J190 N KB hKB KO196 hKO196) N x1 x2 x3 x6 σ))))))), (fun _ z => absurd z List.not_mem_nil)⟩) 130 ?_ ?_ <;> rfl)
set_option maxRecDepth 200000 in
theorem g_X10_runs_L59 (N : Nat) (KO196 : Wd → Option (Int64 × Wd)) (hKO196 : ∀ (σ : Wd), GO cX10_runs RX10 7 2 sc0 nI0 rJ nV0 (KO196 σ) 196 (mkp 0 7 [(0, .ref 41)]) [] σ) : ∀ (n : Nat), ∀ (x1 : Int32) (x2 : Int32) (x3 : Int32) (σ : Wd), GO cX10_runs RX10 7 2 sc0 nI0 rJ nV0 (f_X10_runs_L59 N KO196 n x1 x2 x3 σ) 59 (mkp 0 7 [(0, .ref 41), (1, .int x1), (2, .int x2), (3, .int x3)]) [] σ
  | 0, x1, x2, x3, σ => GO.none
  | n + 1, x1, x2, x3, σ => by
    exact (by refine GO.to (md_X10_runs N) (kl := [(196, fun vs st σ => kS0 st (kA 0 41 vs (KO196 σ))), (70, fun vs st σ => kS0 st (kA 0 41 vs (kI 1 vs (fun x1 => kI 2 vs (fun x2 => kI 3 vs (fun x3 => kJ 4 vs (fun x4 => kI 6 vs (fun x6 => f_X10_runs_L70 N (f_X10_runs_J133 N (f_X10_runs_L59 N KO196 n) KO196) N x1 x2 x3 x4 x6 σ))))))))]) (List.forall_mem_cons.mpr ⟨fun vs st σ => go_kS0 (go_kA (fun h0 => GO.pat [(0, .ref 41)] ⟨h0, trivial⟩ (hKO196 σ))), List.forall_mem_cons.mpr ⟨fun vs st σ => go_kS0 (go_kA (fun h0 => go_kI (fun x1 h1 => go_kI (fun x2 h2 => go_kI (fun x3 h3 => go_kJ (fun x4 h4 => go_kI (fun x6 h6 => GO.pat [(0, .ref 41), (1, .int x1), (2, .int x2), (3, .int x3), (4, .long x4), (6, .int x6)] ⟨h0, h1, h2, h3, h4, h6, trivial⟩ (g_X10_runs_L70 N (f_X10_runs_J133 N (f_X10_runs_L59 N KO196 n) KO196) (g_X10_runs_J133 N (f_X10_runs_L59 N KO196 n) (g_X10_runs_L59 N KO196 hKO196 n) KO196 hKO196) N x1 x2 x3 x4 x6 σ)))))))), (fun _ z => absurd z List.not_mem_nil)⟩⟩) 130 ?_ ?_ <;> rfl)
set_option maxRecDepth 200000 in
theorem g_X10_runs_L201 (N : Nat) (KO224 : Int64 → Wd → Option (Int64 × Wd)) (hKO224 : ∀ (x3 : Int64) (σ : Wd), GO cX10_runs RX10 7 2 sc0 nI0 rJ nV0 (KO224 x3 σ) 224 (mkp 0 7 [(3, .long x3)]) [] σ) : ∀ (n : Nat), ∀ (x3 : Int64) (x5 : Int32) (σ : Wd), GO cX10_runs RX10 7 2 sc0 nI0 rJ nV0 (f_X10_runs_L201 N KO224 n x3 x5 σ) 201 (mkp 0 7 [(0, .ref 41), (3, .long x3), (5, .int x5)]) [] σ
  | 0, x3, x5, σ => GO.none
  | n + 1, x3, x5, σ => by
    exact (by refine GO.to (md_X10_runs N) (kl := [(224, fun vs st σ => kS0 st (kJ 3 vs (fun x3 => KO224 x3 σ))), (201, fun vs st σ => kS0 st (kA 0 41 vs (kJ 3 vs (fun x3 => kI 5 vs (fun x5 => f_X10_runs_L201 N KO224 n x3 x5 σ)))))]) (List.forall_mem_cons.mpr ⟨fun vs st σ => go_kS0 (go_kJ (fun x3 h3 => GO.pat [(3, .long x3)] ⟨h3, trivial⟩ (hKO224 x3 σ))), List.forall_mem_cons.mpr ⟨fun vs st σ => go_kS0 (go_kA (fun h0 => go_kJ (fun x3 h3 => go_kI (fun x5 h5 => GO.pat [(0, .ref 41), (3, .long x3), (5, .int x5)] ⟨h0, h3, h5, trivial⟩ (g_X10_runs_L201 N KO224 hKO224 n x3 x5 σ))))), (fun _ z => absurd z List.not_mem_nil)⟩⟩) 130 ?_ ?_ <;> rfl)
set_option maxRecDepth 200000 in
theorem g_X10_runs_J224 (N : Nat) (x3 : Int64) (σ : Wd) : GO cX10_runs RX10 7 2 sc0 nI0 rJ nV0 (f_X10_runs_J224 N x3 σ) 224 (mkp 0 7 [(3, .long x3)]) [] σ := by
  exact (by refine GO.to (md_X10_runs N) (kl := []) ((fun _ z => absurd z List.not_mem_nil)) 130 ?_ ?_ <;> rfl)
set_option maxRecDepth 200000 in
theorem g_X10_runs_J196 (N : Nat) (σ : Wd) : GO cX10_runs RX10 7 2 sc0 nI0 rJ nV0 (f_X10_runs_J196 N σ) 196 (mkp 0 7 [(0, .ref 41)]) [] σ := by
  exact (by refine GO.to (md_X10_runs N) (kl := [(201, fun vs st σ => kS0 st (kA 0 41 vs (kJ 3 vs (fun x3 => kI 5 vs (fun x5 => f_X10_runs_L201 N (f_X10_runs_J224 N) N x3 x5 σ)))))]) (List.forall_mem_cons.mpr ⟨fun vs st σ => go_kS0 (go_kA (fun h0 => go_kJ (fun x3 h3 => go_kI (fun x5 h5 => GO.pat [(0, .ref 41), (3, .long x3), (5, .int x5)] ⟨h0, h3, h5, trivial⟩ (g_X10_runs_L201 N (f_X10_runs_J224 N) (g_X10_runs_J224 N) N x3 x5 σ))))), (fun _ z => absurd z List.not_mem_nil)⟩) 130 ?_ ?_ <;> rfl)
set_option maxRecDepth 200000 in
theorem g_X10_runs_J57 (N : Nat) (x1 : Int32) (x2 : Int32) (σ : Wd) : GO cX10_runs RX10 7 2 sc0 nI0 rJ nV0 (f_X10_runs_J57 N x1 x2 σ) 57 (mkp 0 7 [(0, .ref 41), (1, .int x1), (2, .int x2)]) [] σ := by
  exact (by refine GO.to (md_X10_runs N) (kl := [(59, fun vs st σ => kS0 st (kA 0 41 vs (kI 1 vs (fun x1 => kI 2 vs (fun x2 => kI 3 vs (fun x3 => f_X10_runs_L59 N (f_X10_runs_J196 N) N x1 x2 x3 σ))))))]) (List.forall_mem_cons.mpr ⟨fun vs st σ => go_kS0 (go_kA (fun h0 => go_kI (fun x1 h1 => go_kI (fun x2 h2 => go_kI (fun x3 h3 => GO.pat [(0, .ref 41), (1, .int x1), (2, .int x2), (3, .int x3)] ⟨h0, h1, h2, h3, trivial⟩ (g_X10_runs_L59 N (f_X10_runs_J196 N) (g_X10_runs_J196 N) N x1 x2 x3 σ)))))), (fun _ z => absurd z List.not_mem_nil)⟩) 130 ?_ ?_ <;> rfl)
set_option maxRecDepth 200000 in
theorem C_X10_runs (N : Nat) : CTL 2 yX10_runs cX10_runs 7 (some .long) (a_X10_runs N) := by
  refine CTL.of (own := RX10) (by decide) rfl (fun as σ r h => ?_)
  unfold a_X10_runs at h
  rcases kSE_s h with ⟨r0, rfl, h0⟩ | hn
  ·
    obtain ⟨b1, r1, rfl, h1⟩ := kSI_s h0
    obtain ⟨b2, r2, rfl, h2⟩ := kSI_s h1
    obtain ⟨rfl, h9⟩ := kS0_s h2
    exact ⟨Nat.le_of_ble_eq_true rfl, by refine GO.to (md_X10_runs N) (kl := [(30, fun vs st σ => kS0 st (kA 0 41 vs (kI 1 vs (fun x1 => kI 2 vs (fun x2 => kI 3 vs (fun x3 => f_X10_runs_L30 N (f_X10_runs_J57 N) N x1 x2 x3 σ))))))]) (List.forall_mem_cons.mpr ⟨fun vs st σ => go_kS0 (go_kA (fun h0 => go_kI (fun x1 h1 => go_kI (fun x2 h2 => go_kI (fun x3 h3 => GO.pat [(0, .ref 41), (1, .int x1), (2, .int x2), (3, .int x3)] ⟨h0, h1, h2, h3, trivial⟩ (g_X10_runs_L30 N (f_X10_runs_J57 N) (g_X10_runs_J57 N) N x1 x2 x3 σ)))))), (fun _ z => absurd z List.not_mem_nil)⟩) 130 ?_ ?_ <;> rfl⟩
  cases hn
def T_X10_isShelf : List (Nat × Ent) := [(0, .iload_n 0, 1, []), (1, .i2l, 2, []), (2, .lconst 0, 3, []), (3, .ldc2_w 182, 6, []), (6, .invokestatic 104, 9, []), (9, .ireturn, 10, [])]
set_option maxRecDepth 200000 in
theorem tc_X10_isShelf : T_X10_isShelf.all (chk cX10_isShelf) = true := by decide +kernel
def f_X10_isShelf (N : Nat) (a0 : Int32) (σ : Wd) : Option (Int32 × Wd) :=
  (f_X10_in N (Int32.toInt64 a0) 0 3 σ).bind fun p1 => rZ p1.1 p1.2
def a_X10_isShelf (N : Nat) : List Value → Wd → Option (Int32 × Wd) := fun as σ => kSI as (fun b0 r0 => kS0 r0 (f_X10_isShelf N b0 σ))
def ct_X10_isShelf (N : Nat) : List (Nat × Cal) := [(104, 3, 0, .inl (a_X10_in N))]
set_option maxRecDepth 200000 in
theorem md_X10_isShelf (N : Nat) : MDOK T_X10_isShelf ft_X10 lt_X10 (ct_X10_isShelf N) cX10_isShelf RX10 2 := ⟨tc_X10_isShelf, fc_X10, lc_X10, List.forall_mem_cons.mpr ⟨Or.inl ⟨yX10_in, cX10_in, 6, (some .boolean), 1, k_X10_104, Nat.le_of_ble_eq_true rfl, C_X10_in N⟩, (fun _ z => absurd z List.not_mem_nil)⟩⟩
set_option maxRecDepth 200000 in
theorem C_X10_isShelf (N : Nat) : CTI 2 yX10_isShelf cX10_isShelf 1 (some .boolean) (a_X10_isShelf N) := by
  refine CTZ.of (own := RX10) (by decide) rfl (fun as σ r h => ?_)
  unfold a_X10_isShelf at h
  obtain ⟨b0, r0, rfl, h0⟩ := kSI_s h
  obtain ⟨rfl, h9⟩ := kS0_s h0
  exact ⟨Nat.le_of_ble_eq_true rfl, by refine GO.to (md_X10_isShelf N) (kl := []) ((fun _ z => absurd z List.not_mem_nil)) 11 ?_ ?_ <;> rfl⟩
def T_X10_count : List (Nat × Ent) := [(0, .iconst 0, 1, []), (1, .istore_n 2, 2, []), (2, .iconst 0, 3, []), (3, .istore_n 3, 4, []), (4, .iconst 0, 5, []), (5, .istore 4, 7, []), (7, .iload 4, 9, []), (9, .iconst 4, 10, []), (10, .if_icmp .ge 27, 13, [37]), (13, .iload_n 2, 14, []), (14, .aload_n 0, 15, []), (15, .getfield 88, 18, []), (18, .iload 4, 20, []), (20, .iaload, 21, []), (21, .ifCond .ge 7, 24, [28]), (24, .iconst 0, 25, []), (25, .goto 4, 28, [29]), (28, .iconst 1, 29, []), (29, .iadd, 30, []), (30, .istore_n 2, 31, []), (31, .iinc 4 1, 34, []), (34, .goto (-27), 37, [7]), (37, .iconst 0, 38, []), (38, .istore 4, 40, []), (40, .iload 4, 42, []), (42, .aload_n 0, 43, []), (43, .getfield 100, 46, []), (46, .if_icmp .ge 19, 49, [65]), (49, .iload_n 3, 50, []), (50, .aload_n 0, 51, []), (51, .getfield 21, 54, []), (54, .iload 4, 56, []), (56, .iaload, 57, []), (57, .iadd, 58, []), (58, .istore_n 3, 59, []), (59, .iinc 4 1, 62, []), (62, .goto (-22), 65, [40]), (65, .iload_n 1, 66, []), (66, .tableswitch 62 0 5 #[38, 43, 48, 53, 55, 57], 104, [128, 104, 109, 114, 119, 121, 123]), (104, .aload_n 0, 105, []), (105, .getfield 100, 108, []), (108, .ireturn, 109, []), (109, .aload_n 0, 110, []), (110, .getfield 170, 113, []), (113, .ireturn, 114, []), (114, .aload_n 0, 115, []), (115, .getfield 116, 118, []), (118, .ireturn, 119, []), (119, .iload_n 2, 120, []), (120, .ireturn, 121, []), (121, .iload_n 3, 122, []), (122, .ireturn, 123, []), (123, .aload_n 0, 124, []), (124, .invokevirtual 348, 127, []), (127, .ireturn, 128, []), (128, .iconst (-1), 129, []), (129, .ireturn, 130, [])]
set_option maxRecDepth 200000 in
theorem tc_X10_count : T_X10_count.all (chk cX10_count) = true := by decide +kernel
def f_X10_count_L7 (N : Nat) (KO37 : Int32 → Int32 → Int32 → Wd → Option (Int32 × Wd)) : Nat → Int32 → Int32 → Int32 → Int32 → Wd → Option (Int32 × Wd)
  | 0, _, _, _, _, _ => none
  | n + 1, x1, x2, x3, x4, σ => if 4 ≤ x4 then (KO37 x1 x2 x3 σ) else ((xld σ 67 4 x4).bind fun v1 => if 0 ≤ v1 then (f_X10_count_L7 N KO37 n x1 (x2 + 1) x3 (x4 + 1) σ) else (f_X10_count_L7 N KO37 n x1 (x2 + 0) x3 (x4 + 1) σ))
def f_X10_count_L40 (N : Nat) (KO65 : Int32 → Int32 → Int32 → Wd → Option (Int32 × Wd)) : Nat → Int32 → Int32 → Int32 → Int32 → Wd → Option (Int32 × Wd)
  | 0, _, _, _, _, _ => none
  | n + 1, x1, x2, x3, x4, σ => if (σ.1 41 4) ≤ x4 then (KO65 x1 x2 x3 σ) else ((xld σ 45 12 x4).bind fun v2 => f_X10_count_L40 N KO65 n x1 x2 (x3 + v2) (x4 + 1) σ)
def f_X10_count_J65 (N : Nat) (x1 : Int32) (x2 : Int32) (x3 : Int32) (σ : Wd) : Option (Int32 × Wd) :=
  if x1 = 0 then (some (σ.1 41 4, σ)) else if x1 = 1 then (some (σ.1 41 14, σ)) else if x1 = 2 then (some (σ.1 41 8, σ)) else if x1 = 3 then (some (x2, σ)) else if x1 = 4 then (some (x3, σ)) else if x1 = 5 then ((f_X10_unlike N σ).bind fun p3 => some (p3.1, p3.2)) else (some ((-1), σ))
def f_X10_count_J37 (N : Nat) (x1 : Int32) (x2 : Int32) (x3 : Int32) (σ : Wd) : Option (Int32 × Wd) :=
  f_X10_count_L40 N (f_X10_count_J65 N) N x1 x2 x3 0 σ
def f_X10_count (N : Nat) (a1 : Int32) (σ : Wd) : Option (Int32 × Wd) :=
  f_X10_count_L7 N (f_X10_count_J37 N) N a1 0 0 0 σ
def a_X10_count (N : Nat) : List Value → Wd → Option (Int32 × Wd) := fun as σ => kSE 41 as (fun r0 => kSI r0 (fun b1 r1 => kS0 r1 (f_X10_count N b1 σ))) (none)
set_option maxRecDepth 200000 in
theorem k_X10_348 : calchk RX10 348 1 10 yX10_unlike cX10_unlike 6 (some .int) = true := by decide +kernel
def ct_X10_count (N : Nat) : List (Nat × Cal) := [(348, 1, 10, .inl (a_X10_unlike N))]
set_option maxRecDepth 200000 in
theorem md_X10_count (N : Nat) : MDOK T_X10_count ft_X10 lt_X10 (ct_X10_count N) cX10_count RX10 2 := ⟨tc_X10_count, fc_X10, lc_X10, List.forall_mem_cons.mpr ⟨Or.inl ⟨yX10_unlike, cX10_unlike, 6, (some .int), 1, k_X10_348, Nat.le_of_ble_eq_true rfl, C_X10_unlike N⟩, (fun _ z => absurd z List.not_mem_nil)⟩⟩
set_option maxRecDepth 200000 in
theorem g_X10_count_L7 (N : Nat) (KO37 : Int32 → Int32 → Int32 → Wd → Option (Int32 × Wd)) (hKO37 : ∀ (x1 : Int32) (x2 : Int32) (x3 : Int32) (σ : Wd), GO cX10_count RX10 5 2 sc0 rI nJ0 nV0 (KO37 x1 x2 x3 σ) 37 (mkp 0 5 [(0, .ref 41), (1, .int x1), (2, .int x2), (3, .int x3)]) [] σ) : ∀ (n : Nat), ∀ (x1 : Int32) (x2 : Int32) (x3 : Int32) (x4 : Int32) (σ : Wd), GO cX10_count RX10 5 2 sc0 rI nJ0 nV0 (f_X10_count_L7 N KO37 n x1 x2 x3 x4 σ) 7 (mkp 0 5 [(0, .ref 41), (1, .int x1), (2, .int x2), (3, .int x3), (4, .int x4)]) [] σ
  | 0, x1, x2, x3, x4, σ => GO.none
  | n + 1, x1, x2, x3, x4, σ => by
    exact (by refine GO.to (md_X10_count N) (kl := [(37, fun vs st σ => kS0 st (kA 0 41 vs (kI 1 vs (fun x1 => kI 2 vs (fun x2 => kI 3 vs (fun x3 => KO37 x1 x2 x3 σ)))))), (7, fun vs st σ => kS0 st (kA 0 41 vs (kI 1 vs (fun x1 => kI 2 vs (fun x2 => kI 3 vs (fun x3 => kI 4 vs (fun x4 => f_X10_count_L7 N KO37 n x1 x2 x3 x4 σ)))))))]) (List.forall_mem_cons.mpr ⟨fun vs st σ => go_kS0 (go_kA (fun h0 => go_kI (fun x1 h1 => go_kI (fun x2 h2 => go_kI (fun x3 h3 => GO.pat [(0, .ref 41), (1, .int x1), (2, .int x2), (3, .int x3)] ⟨h0, h1, h2, h3, trivial⟩ (hKO37 x1 x2 x3 σ)))))), List.forall_mem_cons.mpr ⟨fun vs st σ => go_kS0 (go_kA (fun h0 => go_kI (fun x1 h1 => go_kI (fun x2 h2 => go_kI (fun x3 h3 => go_kI (fun x4 h4 => GO.pat [(0, .ref 41), (1, .int x1), (2, .int x2), (3, .int x3), (4, .int x4)] ⟨h0, h1, h2, h3, h4, trivial⟩ (g_X10_count_L7 N KO37 hKO37 n x1 x2 x3 x4 σ))))))), (fun _ z => absurd z List.not_mem_nil)⟩⟩) 62 ?_ ?_ <;> rfl)
set_option maxRecDepth 200000 in
theorem g_X10_count_L40 (N : Nat) (KO65 : Int32 → Int32 → Int32 → Wd → Option (Int32 × Wd)) (hKO65 : ∀ (x1 : Int32) (x2 : Int32) (x3 : Int32) (σ : Wd), GO cX10_count RX10 5 2 sc0 rI nJ0 nV0 (KO65 x1 x2 x3 σ) 65 (mkp 0 5 [(0, .ref 41), (1, .int x1), (2, .int x2), (3, .int x3)]) [] σ) : ∀ (n : Nat), ∀ (x1 : Int32) (x2 : Int32) (x3 : Int32) (x4 : Int32) (σ : Wd), GO cX10_count RX10 5 2 sc0 rI nJ0 nV0 (f_X10_count_L40 N KO65 n x1 x2 x3 x4 σ) 40 (mkp 0 5 [(0, .ref 41), (1, .int x1), (2, .int x2), (3, .int x3), (4, .int x4)]) [] σ
  | 0, x1, x2, x3, x4, σ => GO.none
  | n + 1, x1, x2, x3, x4, σ => by
    exact (by refine GO.to (md_X10_count N) (kl := [(65, fun vs st σ => kS0 st (kA 0 41 vs (kI 1 vs (fun x1 => kI 2 vs (fun x2 => kI 3 vs (fun x3 => KO65 x1 x2 x3 σ)))))), (40, fun vs st σ => kS0 st (kA 0 41 vs (kI 1 vs (fun x1 => kI 2 vs (fun x2 => kI 3 vs (fun x3 => kI 4 vs (fun x4 => f_X10_count_L40 N KO65 n x1 x2 x3 x4 σ)))))))]) (List.forall_mem_cons.mpr ⟨fun vs st σ => go_kS0 (go_kA (fun h0 => go_kI (fun x1 h1 => go_kI (fun x2 h2 => go_kI (fun x3 h3 => GO.pat [(0, .ref 41), (1, .int x1), (2, .int x2), (3, .int x3)] ⟨h0, h1, h2, h3, trivial⟩ (hKO65 x1 x2 x3 σ)))))), List.forall_mem_cons.mpr ⟨fun vs st σ => go_kS0 (go_kA (fun h0 => go_kI (fun x1 h1 => go_kI (fun x2 h2 => go_kI (fun x3 h3 => go_kI (fun x4 h4 => GO.pat [(0, .ref 41), (1, .int x1), (2, .int x2), (3, .int x3), (4, .int x4)] ⟨h0, h1, h2, h3, h4, trivial⟩ (g_X10_count_L40 N KO65 hKO65 n x1 x2 x3 x4 σ))))))), (fun _ z => absurd z List.not_mem_nil)⟩⟩) 62 ?_ ?_ <;> rfl)
set_option maxRecDepth 200000 in
theorem g_X10_count_J65 (N : Nat) (x1 : Int32) (x2 : Int32) (x3 : Int32) (σ : Wd) : GO cX10_count RX10 5 2 sc0 rI nJ0 nV0 (f_X10_count_J65 N x1 x2 x3 σ) 65 (mkp 0 5 [(0, .ref 41), (1, .int x1), (2, .int x2), (3, .int x3)]) [] σ := by
  exact (by refine GO.to (md_X10_count N) (kl := []) ((fun _ z => absurd z List.not_mem_nil)) 62 ?_ ?_ <;> rfl)
set_option maxRecDepth 200000 in
theorem g_X10_count_J37 (N : Nat) (x1 : Int32) (x2 : Int32) (x3 : Int32) (σ : Wd) : GO cX10_count RX10 5 2 sc0 rI nJ0 nV0 (f_X10_count_J37 N x1 x2 x3 σ) 37 (mkp 0 5 [(0, .ref 41), (1, .int x1), (2, .int x2), (3, .int x3)]) [] σ := by
  exact (by refine GO.to (md_X10_count N) (kl := [(40, fun vs st σ => kS0 st (kA 0 41 vs (kI 1 vs (fun x1 => kI 2 vs (fun x2 => kI 3 vs (fun x3 => kI 4 vs (fun x4 => f_X10_count_L40 N (f_X10_count_J65 N) N x1 x2 x3 x4 σ)))))))]) (List.forall_mem_cons.mpr ⟨fun vs st σ => go_kS0 (go_kA (fun h0 => go_kI (fun x1 h1 => go_kI (fun x2 h2 => go_kI (fun x3 h3 => go_kI (fun x4 h4 => GO.pat [(0, .ref 41), (1, .int x1), (2, .int x2), (3, .int x3), (4, .int x4)] ⟨h0, h1, h2, h3, h4, trivial⟩ (g_X10_count_L40 N (f_X10_count_J65 N) (g_X10_count_J65 N) N x1 x2 x3 x4 σ))))))), (fun _ z => absurd z List.not_mem_nil)⟩) 62 ?_ ?_ <;> rfl)
set_option maxRecDepth 200000 in
theorem C_X10_count (N : Nat) : CTI 2 yX10_count cX10_count 5 (some .int) (a_X10_count N) := by
  refine CTI.of (own := RX10) (by decide) rfl (fun as σ r h => ?_)
  unfold a_X10_count at h
  rcases kSE_s h with ⟨r0, rfl, h0⟩ | hn
  ·
    obtain ⟨b1, r1, rfl, h1⟩ := kSI_s h0
    obtain ⟨rfl, h9⟩ := kS0_s h1
    exact ⟨Nat.le_of_ble_eq_true rfl, by refine GO.to (md_X10_count N) (kl := [(7, fun vs st σ => kS0 st (kA 0 41 vs (kI 1 vs (fun x1 => kI 2 vs (fun x2 => kI 3 vs (fun x3 => kI 4 vs (fun x4 => f_X10_count_L7 N (f_X10_count_J37 N) N x1 x2 x3 x4 σ)))))))]) (List.forall_mem_cons.mpr ⟨fun vs st σ => go_kS0 (go_kA (fun h0 => go_kI (fun x1 h1 => go_kI (fun x2 h2 => go_kI (fun x3 h3 => go_kI (fun x4 h4 => GO.pat [(0, .ref 41), (1, .int x1), (2, .int x2), (3, .int x3), (4, .int x4)] ⟨h0, h1, h2, h3, h4, trivial⟩ (g_X10_count_L7 N (f_X10_count_J37 N) (g_X10_count_J37 N) N x1 x2 x3 x4 σ))))))), (fun _ z => absurd z List.not_mem_nil)⟩) 62 ?_ ?_ <;> rfl⟩
  cases hn
def T_X10_becomes : List (Nat × Ent) := [(0, .aload_n 0, 1, []), (1, .invokevirtual 146, 4, []), (4, .istore_n 3, 5, []), (5, .iload_n 3, 6, []), (6, .ifCond .ge 30, 9, [36]), (9, .aload_n 0, 10, []), (10, .getfield 100, 13, []), (13, .bipush 12, 15, []), (15, .if_icmp .ne 6, 18, [21]), (18, .bipush (-3), 20, []), (20, .ireturn, 21, []), (21, .aload_n 0, 22, []), (22, .getfield 100, 25, []), (25, .istore_n 3, 26, []), (26, .aload_n 0, 27, []), (27, .dup, 28, []), (28, .getfield 100, 31, []), (31, .iconst 1, 32, []), (32, .iadd, 33, []), (33, .putfield 100, 36, []), (36, .aload_n 0, 37, []), (37, .getfield 15, 40, []), (40, .iload_n 3, 41, []), (41, .aload_n 0, 42, []), (42, .getfield 122, 45, []), (45, .iastore, 46, []), (46, .iconst 0, 47, []), (47, .istore 4, 49, []), (49, .iload 4, 51, []), (51, .aload_n 0, 52, []), (52, .getfield 122, 55, []), (55, .if_icmp .ge 27, 58, [82]), (58, .aload_n 0, 59, []), (59, .getfield 11, 62, []), (62, .iconst 4, 63, []), (63, .iload_n 3, 64, []), (64, .imul, 65, []), (65, .iload 4, 67, []), (67, .iadd, 68, []), (68, .aload_n 0, 69, []), (69, .getfield 27, 72, []), (72, .iload 4, 74, []), (74, .iaload, 75, []), (75, .iastore, 76, []), (76, .iinc 4 1, 79, []), (79, .goto (-30), 82, [49]), (82, .aload_n 0, 83, []), (83, .getfield 21, 86, []), (86, .iload_n 3, 87, []), (87, .iload_n 2, 88, []), (88, .iastore, 89, []), (89, .iconst 0, 90, []), (90, .istore 4, 92, []), (92, .iload 4, 94, []), (94, .iload_n 2, 95, []), (95, .if_icmp .ge 25, 98, [120]), (98, .aload_n 0, 99, []), (99, .getfield 18, 102, []), (102, .bipush 8, 104, []), (104, .iload_n 3, 105, []), (105, .imul, 106, []), (106, .iload 4, 108, []), (108, .iadd, 109, []), (109, .aload_n 1, 110, []), (110, .iload 4, 112, []), (112, .iaload, 113, []), (113, .iastore, 114, []), (114, .iinc 4 1, 117, []), (117, .goto (-25), 120, [92]), (120, .iload_n 3, 121, []), (121, .ireturn, 122, [])]
set_option maxRecDepth 200000 in
theorem tc_X10_becomes : T_X10_becomes.all (chk cX10_becomes) = true := by decide +kernel
def f_X10_becomes_L49 (N : Nat) (K1 K1L : Nat) (KO82 : Int32 → Int32 → Wd → Option (Int32 × Wd)) : Nat → Int32 → Int32 → Int32 → Wd → Option (Int32 × Wd)
  | 0, _, _, _, _ => none
  | n + 1, x2, x3, x4, σ => if (σ.1 41 9) ≤ x4 then (KO82 x2 x3 σ) else ((xld σ 47 4 x4).bind fun v3 => (xst σ 42 48 ((4 * x3) + x4) v3).bind fun σ4 => f_X10_becomes_L49 N K1 K1L KO82 n x2 x3 (x4 + 1) σ4)
def f_X10_becomes_L92 (N : Nat) (K1 K1L : Nat) (KO120 : Int32 → Wd → Option (Int32 × Wd)) : Nat → Int32 → Int32 → Int32 → Wd → Option (Int32 × Wd)
  | 0, _, _, _, _ => none
  | n + 1, x2, x3, x4, σ => if x2 ≤ x4 then (KO120 x3 σ) else ((xld σ K1 K1L x4).bind fun v6 => (xst σ 44 96 ((8 * x3) + x4) v6).bind fun σ7 => f_X10_becomes_L92 N K1 K1L KO120 n x2 x3 (x4 + 1) σ7)
def f_X10_becomes_J120 (N : Nat) (K1 K1L : Nat) (x3 : Int32) (σ : Wd) : Option (Int32 × Wd) :=
  some (x3, σ)
def f_X10_becomes_J82 (N : Nat) (K1 K1L : Nat) (x2 : Int32) (x3 : Int32) (σ : Wd) : Option (Int32 × Wd) :=
  (xst σ 45 12 x3 x2).bind fun σ5 => f_X10_becomes_L92 N K1 K1L (f_X10_becomes_J120 N K1 K1L) N x2 x3 0 σ5
def f_X10_becomes_J36 (N : Nat) (K1 K1L : Nat) (x2 : Int32) (x3 : Int32) (σ : Wd) : Option (Int32 × Wd) :=
  (xst σ 43 12 x3 (σ.1 41 9)).bind fun σ2 => f_X10_becomes_L49 N K1 K1L (f_X10_becomes_J82 N K1 K1L) N x2 x3 0 σ2
def f_X10_becomes (N : Nat) (K1 K1L : Nat) (a2 : Int32) (σ : Wd) : Option (Int32 × Wd) :=
  (f_X10_planNamed N σ).bind fun p1 => if 0 ≤ p1.1 then (f_X10_becomes_J36 N K1 K1L a2 p1.1 p1.2) else (if (p1.2.1 41 4) = 12 then (some ((-3), p1.2)) else (let σ8 : Wd := sF p1.2 41 4 ((p1.2.1 41 4) + 1)
  f_X10_becomes_J36 N K1 K1L a2 (p1.2.1 41 4) σ8))
def a_X10_becomes (N : Nat) : List Value → Wd → Option (Int32 × Wd) := fun as σ => kSE 41 as (fun r0 => kSE 48 r0 (fun r1 => kSI r1 (fun b2 r2 => kS0 r2 (f_X10_becomes N 48 8 b2 σ))) (kSE 64 r0 (fun r1 => kSI r1 (fun b2 r2 => kS0 r2 (f_X10_becomes N 64 8 b2 σ))) (none))) (none)
set_option maxRecDepth 200000 in
theorem k_X10_146 : calchk RX10 146 1 10 yX10_planNamed cX10_planNamed 3 (some .int) = true := by decide +kernel
def ct_X10_becomes (N : Nat) : List (Nat × Cal) := [(146, 1, 10, .inl (a_X10_planNamed N))]
set_option maxRecDepth 200000 in
theorem md_X10_becomes (N : Nat) : MDOK T_X10_becomes ft_X10 lt_X10 (ct_X10_becomes N) cX10_becomes RX10 3 := ⟨tc_X10_becomes, fc_X10, lc_X10, List.forall_mem_cons.mpr ⟨Or.inl ⟨yX10_planNamed, cX10_planNamed, 3, (some .int), 2, k_X10_146, Nat.le_of_ble_eq_true rfl, C_X10_planNamed N⟩, (fun _ z => absurd z List.not_mem_nil)⟩⟩
set_option maxRecDepth 200000 in
theorem g_X10_becomes_L49 (N : Nat) (K1 K1L : Nat) (hK1 : (K1 = 48 ∧ K1L = 8) ∨ (K1 = 64 ∧ K1L = 8)) (KO82 : Int32 → Int32 → Wd → Option (Int32 × Wd)) (hKO82 : ∀ (x2 : Int32) (x3 : Int32) (σ : Wd), GO cX10_becomes RX10 5 3 sc0 rI nJ0 nV0 (KO82 x2 x3 σ) 82 (mkp 0 5 [(0, .ref 41), (1, .ref K1), (2, .int x2), (3, .int x3)]) [] σ) : ∀ (n : Nat), ∀ (x2 : Int32) (x3 : Int32) (x4 : Int32) (σ : Wd), GO cX10_becomes RX10 5 3 sc0 rI nJ0 nV0 (f_X10_becomes_L49 N K1 K1L KO82 n x2 x3 x4 σ) 49 (mkp 0 5 [(0, .ref 41), (1, .ref K1), (2, .int x2), (3, .int x3), (4, .int x4)]) [] σ
  | 0, x2, x3, x4, σ => GO.none
  | n + 1, x2, x3, x4, σ => by
    rcases hK1 with ⟨rfl, rfl⟩ | ⟨rfl, rfl⟩
    · exact (by refine GO.to (md_X10_becomes N) (kl := [(82, fun vs st σ => kS0 st (kA 0 41 vs (kA 1 48 vs (kI 2 vs (fun x2 => kI 3 vs (fun x3 => KO82 x2 x3 σ)))))), (49, fun vs st σ => kS0 st (kA 0 41 vs (kA 1 48 vs (kI 2 vs (fun x2 => kI 3 vs (fun x3 => kI 4 vs (fun x4 => f_X10_becomes_L49 N 48 8 KO82 n x2 x3 x4 σ)))))))]) (List.forall_mem_cons.mpr ⟨fun vs st σ => go_kS0 (go_kA (fun h0 => go_kA (fun h1 => go_kI (fun x2 h2 => go_kI (fun x3 h3 => GO.pat [(0, .ref 41), (1, .ref 48), (2, .int x2), (3, .int x3)] ⟨h0, h1, h2, h3, trivial⟩ (hKO82 x2 x3 σ)))))), List.forall_mem_cons.mpr ⟨fun vs st σ => go_kS0 (go_kA (fun h0 => go_kA (fun h1 => go_kI (fun x2 h2 => go_kI (fun x3 h3 => go_kI (fun x4 h4 => GO.pat [(0, .ref 41), (1, .ref 48), (2, .int x2), (3, .int x3), (4, .int x4)] ⟨h0, h1, h2, h3, h4, trivial⟩ (g_X10_becomes_L49 N 48 8 (Or.inl ⟨rfl, rfl⟩) KO82 hKO82 n x2 x3 x4 σ))))))), (fun _ z => absurd z List.not_mem_nil)⟩⟩) 76 ?_ ?_ <;> rfl)
    · exact (by refine GO.to (md_X10_becomes N) (kl := [(82, fun vs st σ => kS0 st (kA 0 41 vs (kA 1 64 vs (kI 2 vs (fun x2 => kI 3 vs (fun x3 => KO82 x2 x3 σ)))))), (49, fun vs st σ => kS0 st (kA 0 41 vs (kA 1 64 vs (kI 2 vs (fun x2 => kI 3 vs (fun x3 => kI 4 vs (fun x4 => f_X10_becomes_L49 N 64 8 KO82 n x2 x3 x4 σ)))))))]) (List.forall_mem_cons.mpr ⟨fun vs st σ => go_kS0 (go_kA (fun h0 => go_kA (fun h1 => go_kI (fun x2 h2 => go_kI (fun x3 h3 => GO.pat [(0, .ref 41), (1, .ref 64), (2, .int x2), (3, .int x3)] ⟨h0, h1, h2, h3, trivial⟩ (hKO82 x2 x3 σ)))))), List.forall_mem_cons.mpr ⟨fun vs st σ => go_kS0 (go_kA (fun h0 => go_kA (fun h1 => go_kI (fun x2 h2 => go_kI (fun x3 h3 => go_kI (fun x4 h4 => GO.pat [(0, .ref 41), (1, .ref 64), (2, .int x2), (3, .int x3), (4, .int x4)] ⟨h0, h1, h2, h3, h4, trivial⟩ (g_X10_becomes_L49 N 64 8 (Or.inr ⟨rfl, rfl⟩) KO82 hKO82 n x2 x3 x4 σ))))))), (fun _ z => absurd z List.not_mem_nil)⟩⟩) 76 ?_ ?_ <;> rfl)
set_option maxRecDepth 200000 in
theorem g_X10_becomes_L92 (N : Nat) (K1 K1L : Nat) (hK1 : (K1 = 48 ∧ K1L = 8) ∨ (K1 = 64 ∧ K1L = 8)) (KO120 : Int32 → Wd → Option (Int32 × Wd)) (hKO120 : ∀ (x3 : Int32) (σ : Wd), GO cX10_becomes RX10 5 3 sc0 rI nJ0 nV0 (KO120 x3 σ) 120 (mkp 0 5 [(3, .int x3)]) [] σ) : ∀ (n : Nat), ∀ (x2 : Int32) (x3 : Int32) (x4 : Int32) (σ : Wd), GO cX10_becomes RX10 5 3 sc0 rI nJ0 nV0 (f_X10_becomes_L92 N K1 K1L KO120 n x2 x3 x4 σ) 92 (mkp 0 5 [(0, .ref 41), (1, .ref K1), (2, .int x2), (3, .int x3), (4, .int x4)]) [] σ
  | 0, x2, x3, x4, σ => GO.none
  | n + 1, x2, x3, x4, σ => by
    rcases hK1 with ⟨rfl, rfl⟩ | ⟨rfl, rfl⟩
    · exact (by refine GO.to (md_X10_becomes N) (kl := [(120, fun vs st σ => kS0 st (kI 3 vs (fun x3 => KO120 x3 σ))), (92, fun vs st σ => kS0 st (kA 0 41 vs (kA 1 48 vs (kI 2 vs (fun x2 => kI 3 vs (fun x3 => kI 4 vs (fun x4 => f_X10_becomes_L92 N 48 8 KO120 n x2 x3 x4 σ)))))))]) (List.forall_mem_cons.mpr ⟨fun vs st σ => go_kS0 (go_kI (fun x3 h3 => GO.pat [(3, .int x3)] ⟨h3, trivial⟩ (hKO120 x3 σ))), List.forall_mem_cons.mpr ⟨fun vs st σ => go_kS0 (go_kA (fun h0 => go_kA (fun h1 => go_kI (fun x2 h2 => go_kI (fun x3 h3 => go_kI (fun x4 h4 => GO.pat [(0, .ref 41), (1, .ref 48), (2, .int x2), (3, .int x3), (4, .int x4)] ⟨h0, h1, h2, h3, h4, trivial⟩ (g_X10_becomes_L92 N 48 8 (Or.inl ⟨rfl, rfl⟩) KO120 hKO120 n x2 x3 x4 σ))))))), (fun _ z => absurd z List.not_mem_nil)⟩⟩) 76 ?_ ?_ <;> rfl)
    · exact (by refine GO.to (md_X10_becomes N) (kl := [(120, fun vs st σ => kS0 st (kI 3 vs (fun x3 => KO120 x3 σ))), (92, fun vs st σ => kS0 st (kA 0 41 vs (kA 1 64 vs (kI 2 vs (fun x2 => kI 3 vs (fun x3 => kI 4 vs (fun x4 => f_X10_becomes_L92 N 64 8 KO120 n x2 x3 x4 σ)))))))]) (List.forall_mem_cons.mpr ⟨fun vs st σ => go_kS0 (go_kI (fun x3 h3 => GO.pat [(3, .int x3)] ⟨h3, trivial⟩ (hKO120 x3 σ))), List.forall_mem_cons.mpr ⟨fun vs st σ => go_kS0 (go_kA (fun h0 => go_kA (fun h1 => go_kI (fun x2 h2 => go_kI (fun x3 h3 => go_kI (fun x4 h4 => GO.pat [(0, .ref 41), (1, .ref 64), (2, .int x2), (3, .int x3), (4, .int x4)] ⟨h0, h1, h2, h3, h4, trivial⟩ (g_X10_becomes_L92 N 64 8 (Or.inr ⟨rfl, rfl⟩) KO120 hKO120 n x2 x3 x4 σ))))))), (fun _ z => absurd z List.not_mem_nil)⟩⟩) 76 ?_ ?_ <;> rfl)
set_option maxRecDepth 200000 in
theorem g_X10_becomes_J120 (N : Nat) (K1 K1L : Nat) (hK1 : (K1 = 48 ∧ K1L = 8) ∨ (K1 = 64 ∧ K1L = 8)) (x3 : Int32) (σ : Wd) : GO cX10_becomes RX10 5 3 sc0 rI nJ0 nV0 (f_X10_becomes_J120 N K1 K1L x3 σ) 120 (mkp 0 5 [(3, .int x3)]) [] σ := by
  rcases hK1 with ⟨rfl, rfl⟩ | ⟨rfl, rfl⟩
  · exact (by refine GO.to (md_X10_becomes N) (kl := []) ((fun _ z => absurd z List.not_mem_nil)) 76 ?_ ?_ <;> rfl)
  · exact (by refine GO.to (md_X10_becomes N) (kl := []) ((fun _ z => absurd z List.not_mem_nil)) 76 ?_ ?_ <;> rfl)
set_option maxRecDepth 200000 in
theorem g_X10_becomes_J82 (N : Nat) (K1 K1L : Nat) (hK1 : (K1 = 48 ∧ K1L = 8) ∨ (K1 = 64 ∧ K1L = 8)) (x2 : Int32) (x3 : Int32) (σ : Wd) : GO cX10_becomes RX10 5 3 sc0 rI nJ0 nV0 (f_X10_becomes_J82 N K1 K1L x2 x3 σ) 82 (mkp 0 5 [(0, .ref 41), (1, .ref K1), (2, .int x2), (3, .int x3)]) [] σ := by
  rcases hK1 with ⟨rfl, rfl⟩ | ⟨rfl, rfl⟩
  · exact (by refine GO.to (md_X10_becomes N) (kl := [(92, fun vs st σ => kS0 st (kA 0 41 vs (kA 1 48 vs (kI 2 vs (fun x2 => kI 3 vs (fun x3 => kI 4 vs (fun x4 => f_X10_becomes_L92 N 48 8 (f_X10_becomes_J120 N 48 8) N x2 x3 x4 σ)))))))]) (List.forall_mem_cons.mpr ⟨fun vs st σ => go_kS0 (go_kA (fun h0 => go_kA (fun h1 => go_kI (fun x2 h2 => go_kI (fun x3 h3 => go_kI (fun x4 h4 => GO.pat [(0, .ref 41), (1, .ref 48), (2, .int x2), (3, .int x3), (4, .int x4)] ⟨h0, h1, h2, h3, h4, trivial⟩ (g_X10_becomes_L92 N 48 8 (Or.inl ⟨rfl, rfl⟩) (f_X10_becomes_J120 N 48 8) (g_X10_becomes_J120 N 48 8 (Or.inl ⟨rfl, rfl⟩)) N x2 x3 x4 σ))))))), (fun _ z => absurd z List.not_mem_nil)⟩) 76 ?_ ?_ <;> rfl)
  · exact (by refine GO.to (md_X10_becomes N) (kl := [(92, fun vs st σ => kS0 st (kA 0 41 vs (kA 1 64 vs (kI 2 vs (fun x2 => kI 3 vs (fun x3 => kI 4 vs (fun x4 => f_X10_becomes_L92 N 64 8 (f_X10_becomes_J120 N 64 8) N x2 x3 x4 σ)))))))]) (List.forall_mem_cons.mpr ⟨fun vs st σ => go_kS0 (go_kA (fun h0 => go_kA (fun h1 => go_kI (fun x2 h2 => go_kI (fun x3 h3 => go_kI (fun x4 h4 => GO.pat [(0, .ref 41), (1, .ref 64), (2, .int x2), (3, .int x3), (4, .int x4)] ⟨h0, h1, h2, h3, h4, trivial⟩ (g_X10_becomes_L92 N 64 8 (Or.inr ⟨rfl, rfl⟩) (f_X10_becomes_J120 N 64 8) (g_X10_becomes_J120 N 64 8 (Or.inr ⟨rfl, rfl⟩)) N x2 x3 x4 σ))))))), (fun _ z => absurd z List.not_mem_nil)⟩) 76 ?_ ?_ <;> rfl)
set_option maxRecDepth 200000 in
theorem g_X10_becomes_J36 (N : Nat) (K1 K1L : Nat) (hK1 : (K1 = 48 ∧ K1L = 8) ∨ (K1 = 64 ∧ K1L = 8)) (x2 : Int32) (x3 : Int32) (σ : Wd) : GO cX10_becomes RX10 5 3 sc0 rI nJ0 nV0 (f_X10_becomes_J36 N K1 K1L x2 x3 σ) 36 (mkp 0 5 [(0, .ref 41), (1, .ref K1), (2, .int x2), (3, .int x3)]) [] σ := by
  rcases hK1 with ⟨rfl, rfl⟩ | ⟨rfl, rfl⟩
  · exact (by refine GO.to (md_X10_becomes N) (kl := [(49, fun vs st σ => kS0 st (kA 0 41 vs (kA 1 48 vs (kI 2 vs (fun x2 => kI 3 vs (fun x3 => kI 4 vs (fun x4 => f_X10_becomes_L49 N 48 8 (f_X10_becomes_J82 N 48 8) N x2 x3 x4 σ)))))))]) (List.forall_mem_cons.mpr ⟨fun vs st σ => go_kS0 (go_kA (fun h0 => go_kA (fun h1 => go_kI (fun x2 h2 => go_kI (fun x3 h3 => go_kI (fun x4 h4 => GO.pat [(0, .ref 41), (1, .ref 48), (2, .int x2), (3, .int x3), (4, .int x4)] ⟨h0, h1, h2, h3, h4, trivial⟩ (g_X10_becomes_L49 N 48 8 (Or.inl ⟨rfl, rfl⟩) (f_X10_becomes_J82 N 48 8) (g_X10_becomes_J82 N 48 8 (Or.inl ⟨rfl, rfl⟩)) N x2 x3 x4 σ))))))), (fun _ z => absurd z List.not_mem_nil)⟩) 76 ?_ ?_ <;> rfl)
  · exact (by refine GO.to (md_X10_becomes N) (kl := [(49, fun vs st σ => kS0 st (kA 0 41 vs (kA 1 64 vs (kI 2 vs (fun x2 => kI 3 vs (fun x3 => kI 4 vs (fun x4 => f_X10_becomes_L49 N 64 8 (f_X10_becomes_J82 N 64 8) N x2 x3 x4 σ)))))))]) (List.forall_mem_cons.mpr ⟨fun vs st σ => go_kS0 (go_kA (fun h0 => go_kA (fun h1 => go_kI (fun x2 h2 => go_kI (fun x3 h3 => go_kI (fun x4 h4 => GO.pat [(0, .ref 41), (1, .ref 64), (2, .int x2), (3, .int x3), (4, .int x4)] ⟨h0, h1, h2, h3, h4, trivial⟩ (g_X10_becomes_L49 N 64 8 (Or.inr ⟨rfl, rfl⟩) (f_X10_becomes_J82 N 64 8) (g_X10_becomes_J82 N 64 8 (Or.inr ⟨rfl, rfl⟩)) N x2 x3 x4 σ))))))), (fun _ z => absurd z List.not_mem_nil)⟩) 76 ?_ ?_ <;> rfl)
set_option maxRecDepth 200000 in
theorem C_X10_becomes (N : Nat) : CTI 3 yX10_becomes cX10_becomes 5 (some .int) (a_X10_becomes N) := by
  refine CTI.of (own := RX10) (by decide) rfl (fun as σ r h => ?_)
  unfold a_X10_becomes at h
  rcases kSE_s h with ⟨r0, rfl, h0⟩ | hn
  ·
    rcases kSE_s h0 with ⟨r1, rfl, h1⟩ | h0n
    ·
      obtain ⟨b2, r2, rfl, h2⟩ := kSI_s h1
      obtain ⟨rfl, h9⟩ := kS0_s h2
      exact ⟨Nat.le_of_ble_eq_true rfl, by refine GO.to (md_X10_becomes N) (kl := [(36, fun vs st σ => kS0 st (kA 0 41 vs (kA 1 48 vs (kI 2 vs (fun x2 => kI 3 vs (fun x3 => f_X10_becomes_J36 N 48 8 x2 x3 σ))))))]) (List.forall_mem_cons.mpr ⟨fun vs st σ => go_kS0 (go_kA (fun h0 => go_kA (fun h1 => go_kI (fun x2 h2 => go_kI (fun x3 h3 => GO.pat [(0, .ref 41), (1, .ref 48), (2, .int x2), (3, .int x3)] ⟨h0, h1, h2, h3, trivial⟩ (g_X10_becomes_J36 N 48 8 (Or.inl ⟨rfl, rfl⟩) x2 x3 σ)))))), (fun _ z => absurd z List.not_mem_nil)⟩) 76 ?_ ?_ <;> rfl⟩
    rcases kSE_s h0n with ⟨r1, rfl, h1⟩ | h0nn
    ·
      obtain ⟨b2, r2, rfl, h2⟩ := kSI_s h1
      obtain ⟨rfl, h9⟩ := kS0_s h2
      exact ⟨Nat.le_of_ble_eq_true rfl, by refine GO.to (md_X10_becomes N) (kl := [(36, fun vs st σ => kS0 st (kA 0 41 vs (kA 1 64 vs (kI 2 vs (fun x2 => kI 3 vs (fun x3 => f_X10_becomes_J36 N 64 8 x2 x3 σ))))))]) (List.forall_mem_cons.mpr ⟨fun vs st σ => go_kS0 (go_kA (fun h0 => go_kA (fun h1 => go_kI (fun x2 h2 => go_kI (fun x3 h3 => GO.pat [(0, .ref 41), (1, .ref 64), (2, .int x2), (3, .int x3)] ⟨h0, h1, h2, h3, trivial⟩ (g_X10_becomes_J36 N 64 8 (Or.inr ⟨rfl, rfl⟩) x2 x3 σ)))))), (fun _ z => absurd z List.not_mem_nil)⟩) 76 ?_ ?_ <;> rfl⟩
    cases h0nn
  cases hn
def T_X10_isNamed : List (Nat × Ent) := [(0, .aload_n 0, 1, []), (1, .invokevirtual 149, 4, []), (4, .aload_n 0, 5, []), (5, .getfield 122, 8, []), (8, .ifCond .le 18, 11, [26]), (11, .aload_n 0, 12, []), (12, .getfield 119, 15, []), (15, .aload_n 0, 16, []), (16, .getfield 116, 19, []), (19, .if_icmp .ne 7, 22, [26]), (22, .iconst 1, 23, []), (23, .goto 4, 26, [27]), (26, .iconst 0, 27, []), (27, .istore_n 1, 28, []), (28, .aload_n 0, 29, []), (29, .iconst 0, 30, []), (30, .putfield 116, 33, []), (33, .iload_n 1, 34, []), (34, .ireturn, 35, [])]
set_option maxRecDepth 200000 in
theorem tc_X10_isNamed : T_X10_isNamed.all (chk cX10_isNamed) = true := by decide +kernel
def f_X10_isNamed (N : Nat) (σ : Wd) : Option (Int32 × Wd) :=
  (f_X10_readsName N σ).bind fun σ1 => if (σ1.1 41 9) ≤ 0 then (let σ2 : Wd := sF σ1 41 8 0
  some (0, σ2)) else (if (σ1.1 41 11) = (σ1.1 41 8) then (let σ3 : Wd := sF σ1 41 8 0
  some (1, σ3)) else (let σ4 : Wd := sF σ1 41 8 0
  some (0, σ4)))
def a_X10_isNamed (N : Nat) : List Value → Wd → Option (Int32 × Wd) := fun as σ => kSE 41 as (fun r0 => kS0 r0 (f_X10_isNamed N σ)) (none)
set_option maxRecDepth 200000 in
theorem k_X10_149 : calchk RX10 149 1 10 yX10_readsName cX10_readsName 1 none = true := by decide +kernel
def ct_X10_isNamed (N : Nat) : List (Nat × Cal) := [(149, 1, 10, .inr (.inr (a_X10_readsName N)))]
set_option maxRecDepth 200000 in
theorem md_X10_isNamed (N : Nat) : MDOK T_X10_isNamed ft_X10 lt_X10 (ct_X10_isNamed N) cX10_isNamed RX10 3 := ⟨tc_X10_isNamed, fc_X10, lc_X10, List.forall_mem_cons.mpr ⟨Or.inl ⟨yX10_readsName, cX10_readsName, 1, none, 2, k_X10_149, Nat.le_of_ble_eq_true rfl, C_X10_readsName N⟩, (fun _ z => absurd z List.not_mem_nil)⟩⟩
set_option maxRecDepth 200000 in
theorem C_X10_isNamed (N : Nat) : CTI 3 yX10_isNamed cX10_isNamed 2 (some .boolean) (a_X10_isNamed N) := by
  refine CTZ.of (own := RX10) (by decide) rfl (fun as σ r h => ?_)
  unfold a_X10_isNamed at h
  rcases kSE_s h with ⟨r0, rfl, h0⟩ | hn
  ·
    obtain ⟨rfl, h9⟩ := kS0_s h0
    exact ⟨Nat.le_of_ble_eq_true rfl, by refine GO.to (md_X10_isNamed N) (kl := []) ((fun _ z => absurd z List.not_mem_nil)) 24 ?_ ?_ <;> rfl⟩
  cases hn
def T_X10_forget : List (Nat × Ent) := [(0, .aload_n 0, 1, []), (1, .iload_n 1, 2, []), (2, .invokevirtual 163, 5, []), (5, .ifCond .ne 5, 8, [10]), (8, .iconst (-1), 9, []), (9, .ireturn, 10, []), (10, .aload_n 0, 11, []), (11, .dup, 12, []), (12, .getfield 100, 15, []), (15, .iconst 1, 16, []), (16, .isub, 17, []), (17, .putfield 100, 20, []), (20, .iload_n 1, 21, []), (21, .istore_n 2, 22, []), (22, .iload_n 2, 23, []), (23, .aload_n 0, 24, []), (24, .getfield 100, 27, []), (27, .if_icmp .ge 111, 30, [138]), (30, .aload_n 0, 31, []), (31, .getfield 15, 34, []), (34, .iload_n 2, 35, []), (35, .aload_n 0, 36, []), (36, .getfield 15, 39, []), (39, .iload_n 2, 40, []), (40, .iconst 1, 41, []), (41, .iadd, 42, []), (42, .iaload, 43, []), (43, .iastore, 44, []), (44, .aload_n 0, 45, []), (45, .getfield 21, 48, []), (48, .iload_n 2, 49, []), (49, .aload_n 0, 50, []), (50, .getfield 21, 53, []), (53, .iload_n 2, 54, []), (54, .iconst 1, 55, []), (55, .iadd, 56, []), (56, .iaload, 57, []), (57, .iastore, 58, []), (58, .iconst 0, 59, []), (59, .istore_n 3, 60, []), (60, .iload_n 3, 61, []), (61, .iconst 4, 62, []), (62, .if_icmp .ge 31, 65, [93]), (65, .aload_n 0, 66, []), (66, .getfield 11, 69, []), (69, .iconst 4, 70, []), (70, .iload_n 2, 71, []), (71, .imul, 72, []), (72, .iload_n 3, 73, []), (73, .iadd, 74, []), (74, .aload_n 0, 75, []), (75, .getfield 11, 78, []), (78, .iconst 4, 79, []), (79, .iload_n 2, 80, []), (80, .imul, 81, []), (81, .iconst 4, 82, []), (82, .iadd, 83, []), (83, .iload_n 3, 84, []), (84, .iadd, 85, []), (85, .iaload, 86, []), (86, .iastore, 87, []), (87, .iinc 3 1, 90, []), (90, .goto (-30), 93, [60]), (93, .iconst 0, 94, []), (94, .istore_n 3, 95, []), (95, .iload_n 3, 96, []), (96, .bipush 8, 98, []), (98, .if_icmp .ge 34, 101, [132]), (101, .aload_n 0, 102, []), (102, .getfield 18, 105, []), (105, .bipush 8, 107, []), (107, .iload_n 2, 108, []), (108, .imul, 109, []), (109, .iload_n 3, 110, []), (110, .iadd, 111, []), (111, .aload_n 0, 112, []), (112, .getfield 18, 115, []), (115, .bipush 8, 117, []), (117, .iload_n 2, 118, []), (118, .imul, 119, []), (119, .bipush 8, 121, []), (121, .iadd, 122, []), (122, .iload_n 3, 123, []), (123, .iadd, 124, []), (124, .iaload, 125, []), (125, .iastore, 126, []), (126, .iinc 3 1, 129, []), (129, .goto (-34), 132, [95]), (132, .iinc 2 1, 135, []), (135, .goto (-113), 138, [22]), (138, .aload_n 0, 139, []), (139, .getfield 100, 142, []), (142, .ireturn, 143, [])]
set_option maxRecDepth 200000 in
theorem tc_X10_forget : T_X10_forget.all (chk cX10_forget) = true := by decide +kernel
def f_X10_forget_L60 (N : Nat) (KO93 : Int32 → Wd → Option (Int32 × Wd)) : Nat → Int32 → Int32 → Wd → Option (Int32 × Wd)
  | 0, _, _, _ => none
  | n + 1, x2, x3, σ => if 4 ≤ x3 then (KO93 x2 σ) else ((xld σ 42 48 (((4 * x2) + 4) + x3)).bind fun v7 => (xst σ 42 48 ((4 * x2) + x3) v7).bind fun σ8 => f_X10_forget_L60 N KO93 n x2 (x3 + 1) σ8)
def f_X10_forget_L95 (N : Nat) (KO132 : Int32 → Wd → Option (Int32 × Wd)) : Nat → Int32 → Int32 → Wd → Option (Int32 × Wd)
  | 0, _, _, _ => none
  | n + 1, x2, x3, σ => if 8 ≤ x3 then (KO132 x2 σ) else ((xld σ 44 96 (((8 * x2) + 8) + x3)).bind fun v9 => (xst σ 44 96 ((8 * x2) + x3) v9).bind fun σ10 => f_X10_forget_L95 N KO132 n x2 (x3 + 1) σ10)
def f_X10_forget_J132 (N : Nat) (KB : Int32 → Wd → Option (Int32 × Wd)) (KO138 : Wd → Option (Int32 × Wd)) (x2 : Int32) (σ : Wd) : Option (Int32 × Wd) :=
  KB (x2 + 1) σ
def f_X10_forget_J93 (N : Nat) (KB : Int32 → Wd → Option (Int32 × Wd)) (KO138 : Wd → Option (Int32 × Wd)) (x2 : Int32) (σ : Wd) : Option (Int32 × Wd) :=
  f_X10_forget_L95 N (f_X10_forget_J132 N KB KO138) N x2 0 σ
def f_X10_forget_L22 (N : Nat) (KO138 : Wd → Option (Int32 × Wd)) : Nat → Int32 → Wd → Option (Int32 × Wd)
  | 0, _, _ => none
  | n + 1, x2, σ => if (σ.1 41 4) ≤ x2 then (KO138 σ) else ((xld σ 43 12 (x2 + 1)).bind fun v3 => (xst σ 43 12 x2 v3).bind fun σ4 => (xld σ4 45 12 (x2 + 1)).bind fun v5 => (xst σ4 45 12 x2 v5).bind fun σ6 => f_X10_forget_L60 N (f_X10_forget_J93 N (f_X10_forget_L22 N KO138 n) KO138) N x2 0 σ6)
def f_X10_forget_J138 (N : Nat) (σ : Wd) : Option (Int32 × Wd) :=
  some (σ.1 41 4, σ)
def f_X10_forget (N : Nat) (a1 : Int32) (σ : Wd) : Option (Int32 × Wd) :=
  (f_X10_isPlan N a1 σ).bind fun p1 => if p1.1 = 0 then (some ((-1), p1.2)) else (let σ2 : Wd := sF p1.2 41 4 ((p1.2.1 41 4) - 1)
  f_X10_forget_L22 N (f_X10_forget_J138 N) N a1 σ2)
def a_X10_forget (N : Nat) : List Value → Wd → Option (Int32 × Wd) := fun as σ => kSE 41 as (fun r0 => kSI r0 (fun b1 r1 => kS0 r1 (f_X10_forget N b1 σ))) (none)
set_option maxRecDepth 200000 in
theorem k_X10_163 : calchk RX10 163 2 10 yX10_isPlan cX10_isPlan 2 (some .boolean) = true := by decide +kernel
def ct_X10_forget (N : Nat) : List (Nat × Cal) := [(163, 2, 10, .inl (a_X10_isPlan N))]
set_option maxRecDepth 200000 in
theorem md_X10_forget (N : Nat) : MDOK T_X10_forget ft_X10 lt_X10 (ct_X10_forget N) cX10_forget RX10 3 := ⟨tc_X10_forget, fc_X10, lc_X10, List.forall_mem_cons.mpr ⟨Or.inl ⟨yX10_isPlan, cX10_isPlan, 2, (some .boolean), 2, k_X10_163, Nat.le_of_ble_eq_true rfl, C_X10_isPlan N⟩, (fun _ z => absurd z List.not_mem_nil)⟩⟩
set_option maxRecDepth 200000 in
theorem g_X10_forget_L60 (N : Nat) (KO93 : Int32 → Wd → Option (Int32 × Wd)) (hKO93 : ∀ (x2 : Int32) (σ : Wd), GO cX10_forget RX10 4 3 sc0 rI nJ0 nV0 (KO93 x2 σ) 93 (mkp 0 4 [(0, .ref 41), (2, .int x2)]) [] σ) : ∀ (n : Nat), ∀ (x2 : Int32) (x3 : Int32) (σ : Wd), GO cX10_forget RX10 4 3 sc0 rI nJ0 nV0 (f_X10_forget_L60 N KO93 n x2 x3 σ) 60 (mkp 0 4 [(0, .ref 41), (2, .int x2), (3, .int x3)]) [] σ
  | 0, x2, x3, σ => GO.none
  | n + 1, x2, x3, σ => by
    exact (by refine GO.to (md_X10_forget N) (kl := [(93, fun vs st σ => kS0 st (kA 0 41 vs (kI 2 vs (fun x2 => KO93 x2 σ)))), (60, fun vs st σ => kS0 st (kA 0 41 vs (kI 2 vs (fun x2 => kI 3 vs (fun x3 => f_X10_forget_L60 N KO93 n x2 x3 σ)))))]) (List.forall_mem_cons.mpr ⟨fun vs st σ => go_kS0 (go_kA (fun h0 => go_kI (fun x2 h2 => GO.pat [(0, .ref 41), (2, .int x2)] ⟨h0, h2, trivial⟩ (hKO93 x2 σ)))), List.forall_mem_cons.mpr ⟨fun vs st σ => go_kS0 (go_kA (fun h0 => go_kI (fun x2 h2 => go_kI (fun x3 h3 => GO.pat [(0, .ref 41), (2, .int x2), (3, .int x3)] ⟨h0, h2, h3, trivial⟩ (g_X10_forget_L60 N KO93 hKO93 n x2 x3 σ))))), (fun _ z => absurd z List.not_mem_nil)⟩⟩) 98 ?_ ?_ <;> rfl)
set_option maxRecDepth 200000 in
theorem g_X10_forget_L95 (N : Nat) (KO132 : Int32 → Wd → Option (Int32 × Wd)) (hKO132 : ∀ (x2 : Int32) (σ : Wd), GO cX10_forget RX10 4 3 sc0 rI nJ0 nV0 (KO132 x2 σ) 132 (mkp 0 4 [(0, .ref 41), (2, .int x2)]) [] σ) : ∀ (n : Nat), ∀ (x2 : Int32) (x3 : Int32) (σ : Wd), GO cX10_forget RX10 4 3 sc0 rI nJ0 nV0 (f_X10_forget_L95 N KO132 n x2 x3 σ) 95 (mkp 0 4 [(0, .ref 41), (2, .int x2), (3, .int x3)]) [] σ
  | 0, x2, x3, σ => GO.none
  | n + 1, x2, x3, σ => by
    exact (by refine GO.to (md_X10_forget N) (kl := [(132, fun vs st σ => kS0 st (kA 0 41 vs (kI 2 vs (fun x2 => KO132 x2 σ)))), (95, fun vs st σ => kS0 st (kA 0 41 vs (kI 2 vs (fun x2 => kI 3 vs (fun x3 => f_X10_forget_L95 N KO132 n x2 x3 σ)))))]) (List.forall_mem_cons.mpr ⟨fun vs st σ => go_kS0 (go_kA (fun h0 => go_kI (fun x2 h2 => GO.pat [(0, .ref 41), (2, .int x2)] ⟨h0, h2, trivial⟩ (hKO132 x2 σ)))), List.forall_mem_cons.mpr ⟨fun vs st σ => go_kS0 (go_kA (fun h0 => go_kI (fun x2 h2 => go_kI (fun x3 h3 => GO.pat [(0, .ref 41), (2, .int x2), (3, .int x3)] ⟨h0, h2, h3, trivial⟩ (g_X10_forget_L95 N KO132 hKO132 n x2 x3 σ))))), (fun _ z => absurd z List.not_mem_nil)⟩⟩) 98 ?_ ?_ <;> rfl)
set_option maxRecDepth 200000 in
theorem g_X10_forget_J132 (N : Nat) (KB : Int32 → Wd → Option (Int32 × Wd)) (hKB : ∀ (x2 : Int32) (σ : Wd), GO cX10_forget RX10 4 3 sc0 rI nJ0 nV0 (KB x2 σ) 22 (mkp 0 4 [(0, .ref 41), (2, .int x2)]) [] σ) (KO138 : Wd → Option (Int32 × Wd)) (hKO138 : ∀ (σ : Wd), GO cX10_forget RX10 4 3 sc0 rI nJ0 nV0 (KO138 σ) 138 (mkp 0 4 [(0, .ref 41)]) [] σ) (x2 : Int32) (σ : Wd) : GO cX10_forget RX10 4 3 sc0 rI nJ0 nV0 (f_X10_forget_J132 N KB KO138 x2 σ) 132 (mkp 0 4 [(0, .ref 41), (2, .int x2)]) [] σ := by
  exact (by refine GO.to (md_X10_forget N) (kl := [(22, fun vs st σ => kS0 st (kA 0 41 vs (kI 2 vs (fun x2 => KB x2 σ))))]) (List.forall_mem_cons.mpr ⟨fun vs st σ => go_kS0 (go_kA (fun h0 => go_kI (fun x2 h2 => GO.pat [(0, .ref 41), (2, .int x2)] ⟨h0, h2, trivial⟩ (hKB x2 σ)))), (fun _ z => absurd z List.not_mem_nil)⟩) 98 ?_ ?_ <;> rfl)
set_option maxRecDepth 200000 in
theorem g_X10_forget_J93 (N : Nat) (KB : Int32 → Wd → Option (Int32 × Wd)) (hKB : ∀ (x2 : Int32) (σ : Wd), GO cX10_forget RX10 4 3 sc0 rI nJ0 nV0 (KB x2 σ) 22 (mkp 0 4 [(0, .ref 41), (2, .int x2)]) [] σ) (KO138 : Wd → Option (Int32 × Wd)) (hKO138 : ∀ (σ : Wd), GO cX10_forget RX10 4 3 sc0 rI nJ0 nV0 (KO138 σ) 138 (mkp 0 4 [(0, .ref 41)]) [] σ) (x2 : Int32) (σ : Wd) : GO cX10_forget RX10 4 3 sc0 rI nJ0 nV0 (f_X10_forget_J93 N KB KO138 x2 σ) 93 (mkp 0 4 [(0, .ref 41), (2, .int x2)]) [] σ := by
  exact (by refine GO.to (md_X10_forget N) (kl := [(95, fun vs st σ => kS0 st (kA 0 41 vs (kI 2 vs (fun x2 => kI 3 vs (fun x3 => f_X10_forget_L95 N (f_X10_forget_J132 N KB KO138) N x2 x3 σ)))))]) (List.forall_mem_cons.mpr ⟨fun vs st σ => go_kS0 (go_kA (fun h0 => go_kI (fun x2 h2 => go_kI (fun x3 h3 => GO.pat [(0, .ref 41), (2, .int x2), (3, .int x3)] ⟨h0, h2, h3, trivial⟩ (g_X10_forget_L95 N (f_X10_forget_J132 N KB KO138) (g_X10_forget_J132 N KB hKB KO138 hKO138) N x2 x3 σ))))), (fun _ z => absurd z List.not_mem_nil)⟩) 98 ?_ ?_ <;> rfl)
set_option maxRecDepth 200000 in
theorem g_X10_forget_L22 (N : Nat) (KO138 : Wd → Option (Int32 × Wd)) (hKO138 : ∀ (σ : Wd), GO cX10_forget RX10 4 3 sc0 rI nJ0 nV0 (KO138 σ) 138 (mkp 0 4 [(0, .ref 41)]) [] σ) : ∀ (n : Nat), ∀ (x2 : Int32) (σ : Wd), GO cX10_forget RX10 4 3 sc0 rI nJ0 nV0 (f_X10_forget_L22 N KO138 n x2 σ) 22 (mkp 0 4 [(0, .ref 41), (2, .int x2)]) [] σ
  | 0, x2, σ => GO.none
  | n + 1, x2, σ => by
    exact (by refine GO.to (md_X10_forget N) (kl := [(138, fun vs st σ => kS0 st (kA 0 41 vs (KO138 σ))), (60, fun vs st σ => kS0 st (kA 0 41 vs (kI 2 vs (fun x2 => kI 3 vs (fun x3 => f_X10_forget_L60 N (f_X10_forget_J93 N (f_X10_forget_L22 N KO138 n) KO138) N x2 x3 σ)))))]) (List.forall_mem_cons.mpr ⟨fun vs st σ => go_kS0 (go_kA (fun h0 => GO.pat [(0, .ref 41)] ⟨h0, trivial⟩ (hKO138 σ))), List.forall_mem_cons.mpr ⟨fun vs st σ => go_kS0 (go_kA (fun h0 => go_kI (fun x2 h2 => go_kI (fun x3 h3 => GO.pat [(0, .ref 41), (2, .int x2), (3, .int x3)] ⟨h0, h2, h3, trivial⟩ (g_X10_forget_L60 N (f_X10_forget_J93 N (f_X10_forget_L22 N KO138 n) KO138) (g_X10_forget_J93 N (f_X10_forget_L22 N KO138 n) (g_X10_forget_L22 N KO138 hKO138 n) KO138 hKO138) N x2 x3 σ))))), (fun _ z => absurd z List.not_mem_nil)⟩⟩) 98 ?_ ?_ <;> rfl)
set_option maxRecDepth 200000 in
theorem g_X10_forget_J138 (N : Nat) (σ : Wd) : GO cX10_forget RX10 4 3 sc0 rI nJ0 nV0 (f_X10_forget_J138 N σ) 138 (mkp 0 4 [(0, .ref 41)]) [] σ := by
  exact (by refine GO.to (md_X10_forget N) (kl := []) ((fun _ z => absurd z List.not_mem_nil)) 98 ?_ ?_ <;> rfl)
set_option maxRecDepth 200000 in
theorem C_X10_forget (N : Nat) : CTI 3 yX10_forget cX10_forget 4 (some .int) (a_X10_forget N) := by
  refine CTI.of (own := RX10) (by decide) rfl (fun as σ r h => ?_)
  unfold a_X10_forget at h
  rcases kSE_s h with ⟨r0, rfl, h0⟩ | hn
  ·
    obtain ⟨b1, r1, rfl, h1⟩ := kSI_s h0
    obtain ⟨rfl, h9⟩ := kS0_s h1
    exact ⟨Nat.le_of_ble_eq_true rfl, by refine GO.to (md_X10_forget N) (kl := [(22, fun vs st σ => kS0 st (kA 0 41 vs (kI 2 vs (fun x2 => f_X10_forget_L22 N (f_X10_forget_J138 N) N x2 σ))))]) (List.forall_mem_cons.mpr ⟨fun vs st σ => go_kS0 (go_kA (fun h0 => go_kI (fun x2 h2 => GO.pat [(0, .ref 41), (2, .int x2)] ⟨h0, h2, trivial⟩ (g_X10_forget_L22 N (f_X10_forget_J138 N) (g_X10_forget_J138 N) N x2 σ)))), (fun _ z => absurd z List.not_mem_nil)⟩) 98 ?_ ?_ <;> rfl⟩
  cases hn
def T_X10_plan : List (Nat × Ent) := [(0, .aload_n 0, 1, []), (1, .iload_n 1, 2, []), (2, .invokevirtual 163, 5, []), (5, .ifCond .eq 9, 8, [14]), (8, .iload_n 2, 9, []), (9, .bipush (-2), 11, []), (11, .if_icmp .ge 5, 14, [16]), (14, .iconst (-1), 15, []), (15, .ireturn, 16, []), (16, .iload_n 2, 17, []), (17, .ifCond .lt 30, 20, [47]), (20, .iload_n 2, 21, []), (21, .aload_n 0, 22, []), (22, .getfield 21, 25, []), (25, .iload_n 1, 26, []), (26, .iaload, 27, []), (27, .if_icmp .ge 17, 30, [44]), (30, .aload_n 0, 31, []), (31, .getfield 18, 34, []), (34, .bipush 8, 36, []), (36, .iload_n 1, 37, []), (37, .imul, 38, []), (38, .iload_n 2, 39, []), (39, .iadd, 40, []), (40, .iaload, 41, []), (41, .goto 5, 44, [46]), (44, .bipush (-2), 46, []), (46, .ireturn, 47, []), (47, .iload_n 2, 48, []), (48, .iconst (-1), 49, []), (49, .if_icmp .ne 11, 52, [60]), (52, .aload_n 0, 53, []), (53, .iload_n 1, 54, []), (54, .invokevirtual 167, 57, []), (57, .goto 9, 60, [66]), (60, .aload_n 0, 61, []), (61, .getfield 21, 64, []), (64, .iload_n 1, 65, []), (65, .iaload, 66, []), (66, .ireturn, 67, [])]
set_option maxRecDepth 200000 in
theorem tc_X10_plan : T_X10_plan.all (chk cX10_plan) = true := by decide +kernel
def f_X10_plan (N : Nat) (a1 : Int32) (a2 : Int32) (σ : Wd) : Option (Int32 × Wd) :=
  (f_X10_isPlan N a1 σ).bind fun p1 => if p1.1 = 0 then (some ((-1), p1.2)) else (if (-2) ≤ a2 then (if a2 < 0 then (if a2 = (-1) then ((f_X10_width N a1 p1.2).bind fun p2 => some (p2.1, p2.2)) else ((xld p1.2 45 12 a1).bind fun v3 => some (v3, p1.2))) else ((xld p1.2 45 12 a1).bind fun v4 => if v4 ≤ a2 then (some ((-2), p1.2)) else ((xld p1.2 44 96 ((8 * a1) + a2)).bind fun v5 => some (v5, p1.2)))) else (some ((-1), p1.2)))
def a_X10_plan (N : Nat) : List Value → Wd → Option (Int32 × Wd) := fun as σ => kSE 41 as (fun r0 => kSI r0 (fun b1 r1 => kSI r1 (fun b2 r2 => kS0 r2 (f_X10_plan N b1 b2 σ)))) (none)
set_option maxRecDepth 200000 in
theorem k_X10_167 : calchk RX10 167 2 10 yX10_width cX10_width 2 (some .int) = true := by decide +kernel
def ct_X10_plan (N : Nat) : List (Nat × Cal) := [(163, 2, 10, .inl (a_X10_isPlan N)), (167, 2, 10, .inl (a_X10_width N))]
set_option maxRecDepth 200000 in
theorem md_X10_plan (N : Nat) : MDOK T_X10_plan ft_X10 lt_X10 (ct_X10_plan N) cX10_plan RX10 3 := ⟨tc_X10_plan, fc_X10, lc_X10, List.forall_mem_cons.mpr ⟨Or.inl ⟨yX10_isPlan, cX10_isPlan, 2, (some .boolean), 2, k_X10_163, Nat.le_of_ble_eq_true rfl, C_X10_isPlan N⟩, List.forall_mem_cons.mpr ⟨Or.inl ⟨yX10_width, cX10_width, 2, (some .int), 2, k_X10_167, Nat.le_of_ble_eq_true rfl, C_X10_width N⟩, (fun _ z => absurd z List.not_mem_nil)⟩⟩⟩
set_option maxRecDepth 200000 in
theorem C_X10_plan (N : Nat) : CTI 3 yX10_plan cX10_plan 3 (some .int) (a_X10_plan N) := by
  refine CTI.of (own := RX10) (by decide) rfl (fun as σ r h => ?_)
  unfold a_X10_plan at h
  rcases kSE_s h with ⟨r0, rfl, h0⟩ | hn
  ·
    obtain ⟨b1, r1, rfl, h1⟩ := kSI_s h0
    obtain ⟨b2, r2, rfl, h2⟩ := kSI_s h1
    obtain ⟨rfl, h9⟩ := kS0_s h2
    exact ⟨Nat.le_of_ble_eq_true rfl, by refine GO.to (md_X10_plan N) (kl := []) ((fun _ z => absurd z List.not_mem_nil)) 45 ?_ ?_ <;> rfl⟩
  cases hn
def T_X10_name : List (Nat × Ent) := [(0, .aload_n 0, 1, []), (1, .iload_n 1, 2, []), (2, .invokevirtual 163, 5, []), (5, .ifCond .eq 8, 8, [13]), (8, .iload_n 2, 9, []), (9, .iconst (-1), 10, []), (10, .if_icmp .ge 5, 13, [15]), (13, .iconst (-1), 14, []), (14, .ireturn, 15, []), (15, .iload_n 2, 16, []), (16, .iconst (-1), 17, []), (17, .if_icmp .ne 12, 20, [29]), (20, .aload_n 0, 21, []), (21, .getfield 15, 24, []), (24, .iload_n 1, 25, []), (25, .iaload, 26, []), (26, .goto 28, 29, [54]), (29, .iload_n 2, 30, []), (30, .aload_n 0, 31, []), (31, .getfield 15, 34, []), (34, .iload_n 1, 35, []), (35, .iaload, 36, []), (36, .if_icmp .ge 16, 39, [52]), (39, .aload_n 0, 40, []), (40, .getfield 11, 43, []), (43, .iconst 4, 44, []), (44, .iload_n 1, 45, []), (45, .imul, 46, []), (46, .iload_n 2, 47, []), (47, .iadd, 48, []), (48, .iaload, 49, []), (49, .goto 5, 52, [54]), (52, .bipush (-2), 54, []), (54, .ireturn, 55, [])]
set_option maxRecDepth 200000 in
theorem tc_X10_name : T_X10_name.all (chk cX10_name) = true := by decide +kernel
def f_X10_name (N : Nat) (a1 : Int32) (a2 : Int32) (σ : Wd) : Option (Int32 × Wd) :=
  (f_X10_isPlan N a1 σ).bind fun p1 => if p1.1 = 0 then (some ((-1), p1.2)) else (if (-1) ≤ a2 then (if a2 = (-1) then ((xld p1.2 43 12 a1).bind fun v2 => some (v2, p1.2)) else ((xld p1.2 43 12 a1).bind fun v3 => if v3 ≤ a2 then (some ((-2), p1.2)) else ((xld p1.2 42 48 ((4 * a1) + a2)).bind fun v4 => some (v4, p1.2)))) else (some ((-1), p1.2)))
def a_X10_name (N : Nat) : List Value → Wd → Option (Int32 × Wd) := fun as σ => kSE 41 as (fun r0 => kSI r0 (fun b1 r1 => kSI r1 (fun b2 r2 => kS0 r2 (f_X10_name N b1 b2 σ)))) (none)
def ct_X10_name (N : Nat) : List (Nat × Cal) := [(163, 2, 10, .inl (a_X10_isPlan N))]
set_option maxRecDepth 200000 in
theorem md_X10_name (N : Nat) : MDOK T_X10_name ft_X10 lt_X10 (ct_X10_name N) cX10_name RX10 3 := ⟨tc_X10_name, fc_X10, lc_X10, List.forall_mem_cons.mpr ⟨Or.inl ⟨yX10_isPlan, cX10_isPlan, 2, (some .boolean), 2, k_X10_163, Nat.le_of_ble_eq_true rfl, C_X10_isPlan N⟩, (fun _ z => absurd z List.not_mem_nil)⟩⟩
set_option maxRecDepth 200000 in
theorem C_X10_name (N : Nat) : CTI 3 yX10_name cX10_name 3 (some .int) (a_X10_name N) := by
  refine CTI.of (own := RX10) (by decide) rfl (fun as σ r h => ?_)
  unfold a_X10_name at h
  rcases kSE_s h with ⟨r0, rfl, h0⟩ | hn
  ·
    obtain ⟨b1, r1, rfl, h1⟩ := kSI_s h0
    obtain ⟨b2, r2, rfl, h2⟩ := kSI_s h1
    obtain ⟨rfl, h9⟩ := kS0_s h2
    exact ⟨Nat.le_of_ble_eq_true rfl, by refine GO.to (md_X10_name N) (kl := []) ((fun _ z => absurd z List.not_mem_nil)) 39 ?_ ?_ <;> rfl⟩
  cases hn
