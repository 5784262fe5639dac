def T_X10_knows : List (Nat × Ent) := [(0, .aload_n 0, 1, []), (1, .aload_n 0, 2, []), (2, .getfield 18, 5, []), (5, .bipush 8, 7, []), (7, .iload_n 1, 8, []), (8, .imul, 9, []), (9, .aload_n 0, 10, []), (10, .getfield 21, 13, []), (13, .iload_n 1, 14, []), (14, .iaload, 15, []), (15, .invokevirtual 173, 18, []), (18, .istore_n 2, 19, []), (19, .iload_n 2, 20, []), (20, .ifCond .lt 8, 23, [28]), (23, .aload_n 0, 24, []), (24, .iload_n 2, 25, []), (25, .invokevirtual 176, 28, []), (28, .aload_n 0, 29, []), (29, .getfield 36, 32, []), (32, .aload_n 0, 33, []), (33, .getfield 170, 36, []), (36, .aload_n 0, 37, []), (37, .getfield 21, 40, []), (40, .iload_n 1, 41, []), (41, .iaload, 42, []), (42, .iastore, 43, []), (43, .iconst 0, 44, []), (44, .istore_n 3, 45, []), (45, .iload_n 3, 46, []), (46, .bipush 8, 48, []), (48, .if_icmp .ge 34, 51, [82]), (51, .aload_n 0, 52, []), (52, .getfield 33, 55, []), (55, .bipush 8, 57, []), (57, .aload_n 0, 58, []), (58, .getfield 170, 61, []), (61, .imul, 62, []), (62, .iload_n 3, 63, []), (63, .iadd, 64, []), (64, .aload_n 0, 65, []), (65, .getfield 18, 68, []), (68, .bipush 8, 70, []), (70, .iload_n 1, 71, []), (71, .imul, 72, []), (72, .iload_n 3, 73, []), (73, .iadd, 74, []), (74, .iaload, 75, []), (75, .iastore, 76, []), (76, .iinc 3 1, 79, []), (79, .goto (-34), 82, [45]), (82, .aload_n 0, 83, []), (83, .dup, 84, []), (84, .getfield 170, 87, []), (87, .iconst 1, 88, []), (88, .iadd, 89, []), (89, .putfield 170, 92, []), (92, .aload_n 0, 93, []), (93, .getfield 170, 96, []), (96, .bipush 20, 98, []), (98, .if_icmp .le 8, 101, [106]), (101, .aload_n 0, 102, []), (102, .iconst 0, 103, []), (103, .invokevirtual 176, 106, []), (106, .return_, 107, [])]
set_option maxRecDepth 200000 in
theorem tc_X10_knows : T_X10_knows.all (chk cX10_knows) = true := by decide +kernel
def f_X10_knows_L45 (N : Nat) (KO82 : Wd → Option Wd) : Nat → Int32 → Int32 → Wd → Option Wd
  | 0, _, _, _ => none
  | n + 1, x1, x3, σ => if 8 ≤ x3 then (KO82 σ) else ((xld σ 44 96 ((8 * x1) + x3)).bind fun v5 => (xst σ 49 168 ((8 * (σ.1 41 14)) + x3) v5).bind fun σ6 => f_X10_knows_L45 N KO82 n x1 (x3 + 1) σ6)
def f_X10_knows_J82 (N : Nat) (σ : Wd) : Option Wd :=
  let σ7 : Wd := sF σ 41 14 ((σ.1 41 14) + 1)
  if (σ7.1 41 14) ≤ 20 then (some σ7) else ((f_X10_leaves N 0 σ7).bind fun σ8 => some σ8)
def f_X10_knows_J28 (N : Nat) (x1 : Int32) (σ : Wd) : Option Wd :=
  (xld σ 45 12 x1).bind fun v3 => (xst σ 50 21 (σ.1 41 14) v3).bind fun σ4 => f_X10_knows_L45 N (f_X10_knows_J82 N) N x1 0 σ4
def f_X10_knows (N : Nat) (a1 : Int32) (σ : Wd) : Option Wd :=
  (xld σ 45 12 a1).bind fun v1 => (f_X10_placeKnown N 44 96 (8 * a1) v1 σ).bind fun p2 => if p2.1 < 0 then (f_X10_knows_J28 N a1 p2.2) else ((f_X10_leaves N p2.1 p2.2).bind fun σ9 => f_X10_knows_J28 N a1 σ9)
def a_X10_knows (N : Nat) : List Value → Wd → Option Wd := fun as σ => kSE 41 as (fun r0 => kSI r0 (fun b1 r1 => kS0 r1 (f_X10_knows N b1 σ))) (none)
set_option maxRecDepth 200000 in
theorem k_X10_173 : calchk RX10 173 4 10 yX10_placeKnown cX10_placeKnown 6 (some .int) = true := by decide +kernel
set_option maxRecDepth 200000 in
theorem k_X10_176 : calchk RX10 176 2 10 yX10_leaves cX10_leaves 4 none = true := by decide +kernel
def ct_X10_knows (N : Nat) : List (Nat × Cal) := [(173, 4, 10, .inl (a_X10_placeKnown N)), (176, 2, 10, .inr (.inr (a_X10_leaves N)))]
set_option maxRecDepth 200000 in
theorem md_X10_knows (N : Nat) : MDOK T_X10_knows ft_X10 lt_X10 (ct_X10_knows N) cX10_knows RX10 3 := ⟨tc_X10_knows, fc_X10, lc_X10, List.forall_mem_cons.mpr ⟨Or.inl ⟨yX10_placeKnown, cX10_placeKnown, 6, (some .int), 2, k_X10_173, Nat.le_of_ble_eq_true rfl, C_X10_placeKnown N⟩, List.forall_mem_cons.mpr ⟨Or.inl ⟨yX10_leaves, cX10_leaves, 4, none, 1, k_X10_176, Nat.le_of_ble_eq_true rfl, C_X10_leaves N⟩, (fun _ z => absurd z List.not_mem_nil)⟩⟩⟩
set_option maxRecDepth 200000 in
theorem g_X10_knows_L45 (N : Nat) (KO82 : Wd → Option Wd) (hKO82 : ∀ (σ : Wd), GO cX10_knows RX10 4 3 sc0 nI0 nJ0 some (KO82 σ) 82 (mkp 0 4 [(0, .ref 41)]) [] σ) : ∀ (n : Nat), ∀ (x1 : Int32) (x3 : Int32) (σ : Wd), GO cX10_knows RX10 4 3 sc0 nI0 nJ0 some (f_X10_knows_L45 N KO82 n x1 x3 σ) 45 (mkp 0 4 [(0, .ref 41), (1, .int x1), (3, .int x3)]) [] σ
  | 0, x1, x3, σ => GO.none
  | n + 1, x1, x3, σ => by
    exact (by refine GO.to (md_X10_knows N) (kl := [(82, fun vs st σ => kS0 st (kA 0 41 vs (KO82 σ))), (45, fun vs st σ => kS0 st (kA 0 41 vs (kI 1 vs (fun x1 => kI 3 vs (fun x3 => f_X10_knows_L45 N KO82 n x1 x3 σ)))))]) (List.forall_mem_cons.mpr ⟨fun vs st σ => go_kS0 (go_kA (fun h0 => GO.pat [(0, .ref 41)] ⟨h0, trivial⟩ (hKO82 σ))), List.forall_mem_cons.mpr ⟨fun vs st σ => go_kS0 (go_kA (fun h0 => go_kI (fun x1 h1 => go_kI (fun x3 h3 => GO.pat [(0, .ref 41), (1, .int x1), (3, .int x3)] ⟨h0, h1, h3, trivial⟩ (g_X10_knows_L45 N KO82 hKO82 n x1 x3 σ))))), (fun _ z => absurd z List.not_mem_nil)⟩⟩) 69 ?_ ?_ <;> rfl)
set_option maxRecDepth 200000 in
theorem g_X10_knows_J82 (N : Nat) (σ : Wd) : GO cX10_knows RX10 4 3 sc0 nI0 nJ0 some (f_X10_knows_J82 N σ) 82 (mkp 0 4 [(0, .ref 41)]) [] σ := by
  exact (by refine GO.to (md_X10_knows N) (kl := []) ((fun _ z => absurd z List.not_mem_nil)) 69 ?_ ?_ <;> rfl)
set_option maxRecDepth 200000 in
theorem g_X10_knows_J28 (N : Nat) (x1 : Int32) (σ : Wd) : GO cX10_knows RX10 4 3 sc0 nI0 nJ0 some (f_X10_knows_J28 N x1 σ) 28 (mkp 0 4 [(0, .ref 41), (1, .int x1)]) [] σ := by
  exact (by refine GO.to (md_X10_knows N) (kl := [(45, fun vs st σ => kS0 st (kA 0 41 vs (kI 1 vs (fun x1 => kI 3 vs (fun x3 => f_X10_knows_L45 N (f_X10_knows_J82 N) N x1 x3 σ)))))]) (List.forall_mem_cons.mpr ⟨fun vs st σ => go_kS0 (go_kA (fun h0 => go_kI (fun x1 h1 => go_kI (fun x3 h3 => GO.pat [(0, .ref 41), (1, .int x1), (3, .int x3)] ⟨h0, h1, h3, trivial⟩ (g_X10_knows_L45 N (f_X10_knows_J82 N) (g_X10_knows_J82 N) N x1 x3 σ))))), (fun _ z => absurd z List.not_mem_nil)⟩) 69 ?_ ?_ <;> rfl)
set_option maxRecDepth 200000 in
theorem C_X10_knows (N : Nat) : CTV 3 yX10_knows cX10_knows 4 none (a_X10_knows N) := by
  refine CTV.of (own := RX10) (by decide) rfl (fun as σ r h => ?_)
  unfold a_X10_knows at h
  rcases kSE_s h with ⟨r0, rfl, h0⟩ | hn
  ·
    obtain ⟨b1, r1, rfl, h1⟩ := kSI_s h0
    obtain ⟨rfl, h9⟩ := kS0_s h1
    exact ⟨Nat.le_of_ble_eq_true rfl, by refine GO.to (md_X10_knows N) (kl := [(28, fun vs st σ => kS0 st (kA 0 41 vs (kI 1 vs (fun x1 => f_X10_knows_J28 N x1 σ))))]) (List.forall_mem_cons.mpr ⟨fun vs st σ => go_kS0 (go_kA (fun h0 => go_kI (fun x1 h1 => GO.pat [(0, .ref 41), (1, .int x1)] ⟨h0, h1, trivial⟩ (g_X10_knows_J28 N x1 σ)))), (fun _ z => absurd z List.not_mem_nil)⟩) 69 ?_ ?_ <;> rfl⟩
  cases hn
def T_X10_known : List (Nat × Ent) := [(0, .aload_n 0, 1, []), (1, .iload_n 1, 2, []), (2, .invokevirtual 163, 5, []), (5, .ifCond .ne 7, 8, [12]), (8, .iconst (-1), 9, []), (9, .goto 29, 12, [38]), (12, .aload_n 0, 13, []), (13, .aload_n 0, 14, []), (14, .getfield 18, 17, []), (17, .bipush 8, 19, []), (19, .iload_n 1, 20, []), (20, .imul, 21, []), (21, .aload_n 0, 22, []), (22, .getfield 21, 25, []), (25, .iload_n 1, 26, []), (26, .iaload, 27, []), (27, .invokevirtual 173, 30, []), (30, .ifCond .lt 7, 33, [37]), (33, .iconst 1, 34, []), (34, .goto 4, 37, [38]), (37, .iconst 0, 38, []), (38, .ireturn, 39, [])]
set_option maxRecDepth 200000 in
theorem tc_X10_known : T_X10_known.all (chk cX10_known) = true := by decide +kernel
def f_X10_known (N : Nat) (a1 : Int32) (σ : Wd) : Option (Int32 × Wd) :=
  (f_X10_isPlan N a1 σ).bind fun p1 => if p1.1 = 0 then (some ((-1), p1.2)) else ((xld p1.2 45 12 a1).bind fun v2 => (f_X10_placeKnown N 44 96 (8 * a1) v2 p1.2).bind fun p3 => if p3.1 < 0 then (some (0, p3.2)) else (some (1, p3.2)))
def a_X10_known (N : Nat) : List Value → Wd → Option (Int32 × Wd) := fun as σ => kSE 41 as (fun r0 => kSI r0 (fun b1 r1 => kS0 r1 (f_X10_known N b1 σ))) (none)
def ct_X10_known (N : Nat) : List (Nat × Cal) := [(163, 2, 10, .inl (a_X10_isPlan N)), (173, 4, 10, .inl (a_X10_placeKnown N))]
set_option maxRecDepth 200000 in
theorem md_X10_known (N : Nat) : MDOK T_X10_known ft_X10 lt_X10 (ct_X10_known N) cX10_known RX10 3 := ⟨tc_X10_known, fc_X10, lc_X10, List.forall_mem_cons.mpr ⟨Or.inl ⟨yX10_isPlan, cX10_isPlan, 2, (some .boolean), 2, k_X10_163, Nat.le_of_ble_eq_true rfl, C_X10_isPlan N⟩, List.forall_mem_cons.mpr ⟨Or.inl ⟨yX10_placeKnown, cX10_placeKnown, 6, (some .int), 2, k_X10_173, Nat.le_of_ble_eq_true rfl, C_X10_placeKnown N⟩, (fun _ z => absurd z List.not_mem_nil)⟩⟩⟩
set_option maxRecDepth 200000 in
theorem C_X10_known (N : Nat) : CTI 3 yX10_known cX10_known 2 (some .int) (a_X10_known N) := by
  refine CTI.of (own := RX10) (by decide) rfl (fun as σ r h => ?_)
  unfold a_X10_known at h
  rcases kSE_s h with ⟨r0, rfl, h0⟩ | hn
  ·
    obtain ⟨b1, r1, rfl, h1⟩ := kSI_s h0
    obtain ⟨rfl, h9⟩ := kS0_s h1
    exact ⟨Nat.le_of_ble_eq_true rfl, by refine GO.to (md_X10_known N) (kl := []) ((fun _ z => absurd z List.not_mem_nil)) 27 ?_ ?_ <;> rfl⟩
  cases hn
def T_X10_arrival : List (Nat × Ent) := [(0, .iload_n 1, 1, []), (1, .iload_n 2, 2, []), (2, .invokestatic 186, 5, []), (5, .istore 4, 7, []), (7, .iload 4, 9, []), (9, .ifCond .lt 15, 12, [24]), (12, .iload_n 3, 13, []), (13, .i2l, 14, []), (14, .lconst 0, 15, []), (15, .ldc2_w 190, 18, []), (18, .invokestatic 104, 21, []), (21, .ifCond .ne 5, 24, [26]), (24, .iconst (-1), 25, []), (25, .ireturn, 26, []), (26, .aload_n 0, 27, []), (27, .getfield 42, 30, []), (30, .iload 4, 32, []), (32, .iaload, 33, []), (33, .istore 5, 35, []), (35, .aload_n 0, 36, []), (36, .getfield 42, 39, []), (39, .iload 4, 41, []), (41, .iload_n 3, 42, []), (42, .iastore, 43, []), (43, .aload_n 0, 44, []), (44, .iconst 0, 45, []), (45, .putfield 170, 48, []), (48, .iload 5, 50, []), (50, .ireturn, 51, [])]
set_option maxRecDepth 200000 in
theorem tc_X10_arrival : T_X10_arrival.all (chk cX10_arrival) = true := by decide +kernel
def f_X10_arrival (N : Nat) (a1 : Int32) (a2 : Int32) (a3 : Int32) (σ : Wd) : Option (Int32 × Wd) :=
  (f_X10_sideAt N a1 a2 σ).bind fun p1 => if p1.1 < 0 then (some ((-1), p1.2)) else ((f_X10_in N (Int32.toInt64 a3) 0 99 p1.2).bind fun p2 => if p2.1 = 0 then (some ((-1), p2.2)) else ((xld p2.2 52 25 p1.1).bind fun v3 => (xst p2.2 52 25 p1.1 a3).bind fun σ4 => let σ5 : Wd := sF σ4 41 14 0
  some (v3, σ5)))
def a_X10_arrival (N : Nat) : List Value → Wd → Option (Int32 × Wd) := fun as σ => kSE 41 as (fun r0 => kSI r0 (fun b1 r1 => kSI r1 (fun b2 r2 => kSI r2 (fun b3 r3 => kS0 r3 (f_X10_arrival N b1 b2 b3 σ))))) (none)
set_option maxRecDepth 200000 in
theorem k_X10_186 : calchk RX10 186 2 0 yX10_sideAt cX10_sideAt 2 (some .int) = true := by decide +kernel
def ct_X10_arrival (N : Nat) : List (Nat × Cal) := [(186, 2, 0, .inl (a_X10_sideAt N)), (104, 3, 0, .inl (a_X10_in N))]
set_option maxRecDepth 200000 in
theorem md_X10_arrival (N : Nat) : MDOK T_X10_arrival ft_X10 lt_X10 (ct_X10_arrival N) cX10_arrival RX10 3 := ⟨tc_X10_arrival, fc_X10, lc_X10, List.forall_mem_cons.mpr ⟨Or.inl ⟨yX10_sideAt, cX10_sideAt, 2, (some .int), 2, k_X10_186, Nat.le_of_ble_eq_true rfl, C_X10_sideAt N⟩, List.forall_mem_cons.mpr ⟨Or.inl ⟨yX10_in, cX10_in, 6, (some .boolean), 1, k_X10_104, Nat.le_of_ble_eq_true rfl, C_X10_in N⟩, (fun _ z => absurd z List.not_mem_nil)⟩⟩⟩
set_option maxRecDepth 200000 in
theorem C_X10_arrival (N : Nat) : CTI 3 yX10_arrival cX10_arrival 6 (some .int) (a_X10_arrival N) := by
  refine CTI.of (own := RX10) (by decide) rfl (fun as σ r h => ?_)
  unfold a_X10_arrival at h
  rcases kSE_s h with ⟨r0, rfl, h0⟩ | hn
  ·
    obtain ⟨b1, r1, rfl, h1⟩ := kSI_s h0
    obtain ⟨b2, r2, rfl, h2⟩ := kSI_s h1
    obtain ⟨b3, r3, rfl, h3⟩ := kSI_s h2
    obtain ⟨rfl, h9⟩ := kS0_s h3
    exact ⟨Nat.le_of_ble_eq_true rfl, by refine GO.to (md_X10_arrival N) (kl := []) ((fun _ z => absurd z List.not_mem_nil)) 34 ?_ ?_ <;> rfl⟩
  cases hn
def T_X10_arrives : List (Nat × Ent) := [(0, .iload_n 1, 1, []), (1, .iload_n 2, 2, []), (2, .invokestatic 186, 5, []), (5, .istore_n 3, 6, []), (6, .iload_n 3, 7, []), (7, .ifCond .ge 7, 10, [14]), (10, .iconst (-1), 11, []), (11, .goto 9, 14, [20]), (14, .aload_n 0, 15, []), (15, .getfield 42, 18, []), (18, .iload_n 3, 19, []), (19, .iaload, 20, []), (20, .ireturn, 21, [])]
set_option maxRecDepth 200000 in
theorem tc_X10_arrives : T_X10_arrives.all (chk cX10_arrives) = true := by decide +kernel
def f_X10_arrives (N : Nat) (a1 : Int32) (a2 : Int32) (σ : Wd) : Option (Int32 × Wd) :=
  (f_X10_sideAt N a1 a2 σ).bind fun p1 => if 0 ≤ p1.1 then ((xld p1.2 52 25 p1.1).bind fun v2 => some (v2, p1.2)) else (some ((-1), p1.2))
def a_X10_arrives (N : Nat) : List Value → Wd → Option (Int32 × Wd) := fun as σ => kSE 41 as (fun r0 => kSI r0 (fun b1 r1 => kSI r1 (fun b2 r2 => kS0 r2 (f_X10_arrives N b1 b2 σ)))) (none)
def ct_X10_arrives (N : Nat) : List (Nat × Cal) := [(186, 2, 0, .inl (a_X10_sideAt N))]
set_option maxRecDepth 200000 in
theorem md_X10_arrives (N : Nat) : MDOK T_X10_arrives ft_X10 lt_X10 (ct_X10_arrives N) cX10_arrives RX10 3 := ⟨tc_X10_arrives, fc_X10, lc_X10, List.forall_mem_cons.mpr ⟨Or.inl ⟨yX10_sideAt, cX10_sideAt, 2, (some .int), 2, k_X10_186, Nat.le_of_ble_eq_true rfl, C_X10_sideAt N⟩, (fun _ z => absurd z List.not_mem_nil)⟩⟩
set_option maxRecDepth 200000 in
theorem C_X10_arrives (N : Nat) : CTI 3 yX10_arrives cX10_arrives 4 (some .int) (a_X10_arrives N) := by
  refine CTI.of (own := RX10) (by decide) rfl (fun as σ r h => ?_)
  unfold a_X10_arrives at h
  rcases kSE_s h with ⟨r0, rfl, h0⟩ | hn
  ·
    obtain ⟨b1, r1, rfl, h1⟩ := kSI_s h0
    obtain ⟨b2, r2, rfl, h2⟩ := kSI_s h1
    obtain ⟨rfl, h9⟩ := kS0_s h2
    exact ⟨Nat.le_of_ble_eq_true rfl, by refine GO.to (md_X10_arrives N) (kl := []) ((fun _ z => absurd z List.not_mem_nil)) 18 ?_ ?_ <;> rfl⟩
  cases hn
def T_X10_xor : List (Nat × Ent) := [(0, .iload_n 1, 1, []), (1, .iload_n 2, 2, []), (2, .if_icmp .ne 8, 5, [10]), (5, .bipush 25, 7, []), (7, .goto 58, 10, [65]), (10, .iload_n 1, 11, []), (11, .bipush 25, 13, []), (13, .if_icmp .ne 7, 16, [20]), (16, .iload_n 2, 17, []), (17, .goto 48, 20, [65]), (20, .iload_n 2, 21, []), (21, .bipush 25, 23, []), (23, .if_icmp .ne 7, 26, [30]), (26, .iload_n 1, 27, []), (27, .goto 38, 30, [65]), (30, .iload_n 1, 31, []), (31, .bipush 26, 33, []), (33, .if_icmp .ne 11, 36, [44]), (36, .aload_n 0, 37, []), (37, .iload_n 2, 38, []), (38, .invokevirtual 199, 41, []), (41, .goto 24, 44, [65]), (44, .iload_n 2, 45, []), (45, .bipush 26, 47, []), (47, .if_icmp .ne 11, 50, [58]), (50, .aload_n 0, 51, []), (51, .iload_n 1, 52, []), (52, .invokevirtual 199, 55, []), (55, .goto 10, 58, [65]), (58, .aload_n 0, 59, []), (59, .iconst 3, 60, []), (60, .iload_n 1, 61, []), (61, .iload_n 2, 62, []), (62, .invokevirtual 195, 65, []), (65, .ireturn, 66, [])]
set_option maxRecDepth 200000 in
theorem tc_X10_xor : T_X10_xor.all (chk cX10_xor) = true := by decide +kernel
def f_X10_xor (N : Nat) (a1 : Int32) (a2 : Int32) (σ : Wd) : Option (Int32 × Wd) :=
  if a1 = a2 then (some (25, σ)) else (if a1 = 25 then (some (a2, σ)) else (if a2 = 25 then (some (a1, σ)) else (if a1 = 26 then ((f_X10_not N a2 σ).bind fun p1 => some (p1.1, p1.2)) else (if a2 = 26 then ((f_X10_not N a1 σ).bind fun p2 => some (p2.1, p2.2)) else ((f_X10_gate N 3 a1 a2 σ).bind fun p3 => some (p3.1, p3.2))))))
def a_X10_xor (N : Nat) : List Value → Wd → Option (Int32 × Wd) := fun as σ => kSE 41 as (fun r0 => kSI r0 (fun b1 r1 => kSI r1 (fun b2 r2 => kS0 r2 (f_X10_xor N b1 b2 σ)))) (none)
set_option maxRecDepth 200000 in
theorem k_X10_199 : calchk RX10 199 2 10 yX10_not cX10_not 2 (some .int) = true := by decide +kernel
def ct_X10_xor (N : Nat) : List (Nat × Cal) := [(199, 2, 10, .inl (a_X10_not N)), (195, 4, 10, .inl (a_X10_gate N))]
set_option maxRecDepth 200000 in
theorem md_X10_xor (N : Nat) : MDOK T_X10_xor ft_X10 lt_X10 (ct_X10_xor N) cX10_xor RX10 3 := ⟨tc_X10_xor, fc_X10, lc_X10, List.forall_mem_cons.mpr ⟨Or.inl ⟨yX10_not, cX10_not, 2, (some .int), 2, k_X10_199, Nat.le_of_ble_eq_true rfl, C_X10_not N⟩, List.forall_mem_cons.mpr ⟨Or.inl ⟨yX10_gate, cX10_gate, 5, (some .int), 1, k_X10_195, Nat.le_of_ble_eq_true rfl, C_X10_gate N⟩, (fun _ z => absurd z List.not_mem_nil)⟩⟩⟩
set_option maxRecDepth 200000 in
theorem C_X10_xor (N : Nat) : CTI 3 yX10_xor cX10_xor 3 (some .int) (a_X10_xor N) := by
  refine CTI.of (own := RX10) (by decide) rfl (fun as σ r h => ?_)
  unfold a_X10_xor at h
  rcases kSE_s h with ⟨r0, rfl, h0⟩ | hn
  ·
    obtain ⟨b1, r1, rfl, h1⟩ := kSI_s h0
    obtain ⟨b2, r2, rfl, h2⟩ := kSI_s h1
    obtain ⟨rfl, h9⟩ := kS0_s h2
    exact ⟨Nat.le_of_ble_eq_true rfl, by refine GO.to (md_X10_xor N) (kl := []) ((fun _ z => absurd z List.not_mem_nil)) 40 ?_ ?_ <;> rfl⟩
  cases hn
def T_X10_g : List (Nat × Ent) := [(0, .aload_n 0, 1, []), (1, .iload_n 1, 2, []), (2, .bipush 12, 4, []), (4, .iload_n 1, 5, []), (5, .iadd, 6, []), (6, .invokevirtual 205, 9, []), (9, .ireturn, 10, [])]
set_option maxRecDepth 200000 in
theorem tc_X10_g : T_X10_g.all (chk cX10_g) = true := by decide +kernel
def f_X10_g (N : Nat) (a1 : Int32) (σ : Wd) : Option (Int32 × Wd) :=
  (f_X10_and N a1 (12 + a1) σ).bind fun p1 => some (p1.1, p1.2)
def a_X10_g (N : Nat) : List Value → Wd → Option (Int32 × Wd) := fun as σ => kSE 41 as (fun r0 => kSI r0 (fun b1 r1 => kS0 r1 (f_X10_g N b1 σ))) (none)
set_option maxRecDepth 200000 in
theorem k_X10_205 : calchk RX10 205 3 10 yX10_and cX10_and 3 (some .int) = true := by decide +kernel
def ct_X10_g (N : Nat) : List (Nat × Cal) := [(205, 3, 10, .inl (a_X10_and N))]
set_option maxRecDepth 200000 in
theorem md_X10_g (N : Nat) : MDOK T_X10_g ft_X10 lt_X10 (ct_X10_g N) cX10_g RX10 3 := ⟨tc_X10_g, fc_X10, lc_X10, List.forall_mem_cons.mpr ⟨Or.inl ⟨yX10_and, cX10_and, 3, (some .int), 2, k_X10_205, Nat.le_of_ble_eq_true rfl, C_X10_and N⟩, (fun _ z => absurd z List.not_mem_nil)⟩⟩
set_option maxRecDepth 200000 in
theorem C_X10_g (N : Nat) : CTI 3 yX10_g cX10_g 2 (some .int) (a_X10_g N) := by
  refine CTI.of (own := RX10) (by decide) rfl (fun as σ r h => ?_)
  unfold a_X10_g at h
  rcases kSE_s h with ⟨r0, rfl, h0⟩ | hn
  ·
    obtain ⟨b1, r1, rfl, h1⟩ := kSI_s h0
    obtain ⟨rfl, h9⟩ := kS0_s h1
    exact ⟨Nat.le_of_ble_eq_true rfl, by refine GO.to (md_X10_g N) (kl := []) ((fun _ z => absurd z List.not_mem_nil)) 12 ?_ ?_ <;> rfl⟩
  cases hn
def T_X10_areNumbers : List (Nat × Ent) := [(0, .iconst 1, 1, []), (1, .aload_n 0, 2, []), (2, .iload_n 1, 3, []), (3, .invokevirtual 167, 6, []), (6, .ishl, 7, []), (7, .iconst 1, 8, []), (8, .isub, 9, []), (9, .istore 5, 11, []), (11, .iload_n 2, 12, []), (12, .i2l, 13, []), (13, .lconst 0, 14, []), (14, .iload 5, 16, []), (16, .i2l, 17, []), (17, .invokestatic 104, 20, []), (20, .ifCond .eq 30, 23, [50]), (23, .iload_n 3, 24, []), (24, .i2l, 25, []), (25, .lconst 0, 26, []), (26, .iload 5, 28, []), (28, .i2l, 29, []), (29, .invokestatic 104, 32, []), (32, .ifCond .eq 18, 35, [50]), (35, .iload 4, 37, []), (37, .i2l, 38, []), (38, .lconst 0, 39, []), (39, .lconst 1, 40, []), (40, .invokestatic 104, 43, []), (43, .ifCond .eq 7, 46, [50]), (46, .iconst 1, 47, []), (47, .goto 4, 50, [51]), (50, .iconst 0, 51, []), (51, .ireturn, 52, [])]
set_option maxRecDepth 200000 in
theorem tc_X10_areNumbers : T_X10_areNumbers.all (chk cX10_areNumbers) = true := by decide +kernel
def f_X10_areNumbers (N : Nat) (a1 : Int32) (a2 : Int32) (a3 : Int32) (a4 : Int32) (σ : Wd) : Option (Int32 × Wd) :=
  (f_X10_width N a1 σ).bind fun p1 => (f_X10_in N (Int32.toInt64 a2) 0 (Int32.toInt64 ((1 <<< (p1.1 &&& 31)) - 1)) p1.2).bind fun p2 => if p2.1 = 0 then (some (0, p2.2)) else ((f_X10_in N (Int32.toInt64 a3) 0 (Int32.toInt64 ((1 <<< (p1.1 &&& 31)) - 1)) p2.2).bind fun p3 => if p3.1 = 0 then (some (0, p3.2)) else ((f_X10_in N (Int32.toInt64 a4) 0 1 p3.2).bind fun p4 => if p4.1 = 0 then (some (0, p4.2)) else (some (1, p4.2))))
def a_X10_areNumbers (N : Nat) : List Value → Wd → Option (Int32 × Wd) := fun as σ => kSE 41 as (fun r0 => kSI r0 (fun b1 r1 => kSI r1 (fun b2 r2 => kSI r2 (fun b3 r3 => kSI r3 (fun b4 r4 => kS0 r4 (f_X10_areNumbers N b1 b2 b3 b4 σ)))))) (none)
def ct_X10_areNumbers (N : Nat) : List (Nat × Cal) := [(167, 2, 10, .inl (a_X10_width N)), (104, 3, 0, .inl (a_X10_in N))]
set_option maxRecDepth 200000 in
theorem md_X10_areNumbers (N : Nat) : MDOK T_X10_areNumbers ft_X10 lt_X10 (ct_X10_areNumbers N) cX10_areNumbers RX10 3 := ⟨tc_X10_areNumbers, fc_X10, lc_X10, List.forall_mem_cons.mpr ⟨Or.inl ⟨yX10_width, cX10_width, 2, (some .int), 2, k_X10_167, Nat.le_of_ble_eq_true rfl, C_X10_width N⟩, List.forall_mem_cons.mpr ⟨Or.inl ⟨yX10_in, cX10_in, 6, (some .boolean), 1, k_X10_104, Nat.le_of_ble_eq_true rfl, C_X10_in N⟩, (fun _ z => absurd z List.not_mem_nil)⟩⟩⟩
set_option maxRecDepth 200000 in
theorem C_X10_areNumbers (N : Nat) : CTI 3 yX10_areNumbers cX10_areNumbers 6 (some .boolean) (a_X10_areNumbers N) := by
  refine CTZ.of (own := RX10) (by decide) rfl (fun as σ r h => ?_)
  unfold a_X10_areNumbers at h
  rcases kSE_s h with ⟨r0, rfl, h0⟩ | hn
  ·
    obtain ⟨b1, r1, rfl, h1⟩ := kSI_s h0
    obtain ⟨b2, r2, rfl, h2⟩ := kSI_s h1
    obtain ⟨b3, r3, rfl, h3⟩ := kSI_s h2
    obtain ⟨b4, r4, rfl, h4⟩ := kSI_s h3
    obtain ⟨rfl, h9⟩ := kS0_s h4
    exact ⟨Nat.le_of_ble_eq_true rfl, by refine GO.to (md_X10_areNumbers N) (kl := []) ((fun _ z => absurd z List.not_mem_nil)) 37 ?_ ?_ <;> rfl⟩
  cases hn
def T_X10_alike : List (Nat × Ent) := [(0, .aload_n 0, 1, []), (1, .iload_n 1, 2, []), (2, .invokevirtual 163, 5, []), (5, .ifCond .eq 11, 8, [16]), (8, .aload_n 0, 9, []), (9, .iload_n 2, 10, []), (10, .invokevirtual 163, 13, []), (13, .ifCond .ne 5, 16, [18]), (16, .iconst (-1), 17, []), (17, .ireturn, 18, []), (18, .aload_n 0, 19, []), (19, .getfield 18, 22, []), (22, .bipush 8, 24, []), (24, .iload_n 1, 25, []), (25, .imul, 26, []), (26, .aload_n 0, 27, []), (27, .getfield 21, 30, []), (30, .iload_n 1, 31, []), (31, .iaload, 32, []), (32, .aload_n 0, 33, []), (33, .getfield 18, 36, []), (36, .bipush 8, 38, []), (38, .iload_n 2, 39, []), (39, .imul, 40, []), (40, .aload_n 0, 41, []), (41, .getfield 21, 44, []), (44, .iload_n 2, 45, []), (45, .iaload, 46, []), (46, .invokestatic 142, 49, []), (49, .istore_n 3, 50, []), (50, .iload_n 3, 51, []), (51, .ifCond .eq 7, 54, [58]), (54, .iconst 2, 55, []), (55, .goto 21, 58, [76]), (58, .aload_n 0, 59, []), (59, .iload_n 1, 60, []), (60, .invokevirtual 167, 63, []), (63, .aload_n 0, 64, []), (64, .iload_n 2, 65, []), (65, .invokevirtual 167, 68, []), (68, .if_icmp .ne 7, 71, [75]), (71, .iconst 1, 72, []), (72, .goto 4, 75, [76]), (75, .iconst 0, 76, []), (76, .ireturn, 77, [])]
set_option maxRecDepth 200000 in
theorem tc_X10_alike : T_X10_alike.all (chk cX10_alike) = true := by decide +kernel
def f_X10_alike (N : Nat) (a1 : Int32) (a2 : Int32) (σ : Wd) : Option (Int32 × Wd) :=
  (f_X10_isPlan N a1 σ).bind fun p1 => if p1.1 = 0 then (some ((-1), p1.2)) else ((f_X10_isPlan N a2 p1.2).bind fun p2 => if p2.1 = 0 then (some ((-1), p2.2)) else ((xld p2.2 45 12 a1).bind fun v3 => (xld p2.2 45 12 a2).bind fun v4 => (f_X10_areAlike N 44 96 44 96 (8 * a1) v3 (8 * a2) v4 p2.2).bind fun p5 => if p5.1 = 0 then ((f_X10_width N a1 p5.2).bind fun p6 => (f_X10_width N a2 p6.2).bind fun p7 => if p6.1 = p7.1 then (some (1, p7.2)) else (some (0, p7.2))) else (some (2, p5.2))))
def a_X10_alike (N : Nat) : List Value → Wd → Option (Int32 × Wd) := fun as σ => kSE 41 as (fun r0 => kSI r0 (fun b1 r1 => kSI r1 (fun b2 r2 => kS0 r2 (f_X10_alike N b1 b2 σ)))) (none)
def ct_X10_alike (N : Nat) : List (Nat × Cal) := [(163, 2, 10, .inl (a_X10_isPlan N)), (142, 6, 0, .inl (a_X10_areAlike N)), (167, 2, 10, .inl (a_X10_width N))]
set_option maxRecDepth 200000 in
theorem md_X10_alike (N : Nat) : MDOK T_X10_alike ft_X10 lt_X10 (ct_X10_alike N) cX10_alike RX10 3 := ⟨tc_X10_alike, fc_X10, lc_X10, List.forall_mem_cons.mpr ⟨Or.inl ⟨yX10_isPlan, cX10_isPlan, 2, (some .boolean), 2, k_X10_163, Nat.le_of_ble_eq_true rfl, C_X10_isPlan N⟩, List.forall_mem_cons.mpr ⟨Or.inl ⟨yX10_areAlike, cX10_areAlike, 8, (some .boolean), 1, k_X10_142, Nat.le_of_ble_eq_true rfl, C_X10_areAlike N⟩, List.forall_mem_cons.mpr ⟨Or.inl ⟨yX10_width, cX10_width, 2, (some .int), 2, k_X10_167, Nat.le_of_ble_eq_true rfl, C_X10_width N⟩, (fun _ z => absurd z List.not_mem_nil)⟩⟩⟩⟩
set_option maxRecDepth 200000 in
theorem C_X10_alike (N : Nat) : CTI 3 yX10_alike cX10_alike 4 (some .int) (a_X10_alike N) := by
  refine CTI.of (own := RX10) (by decide) rfl (fun as σ r h => ?_)
  unfold a_X10_alike at h
  rcases kSE_s h with ⟨r0, rfl, h0⟩ | hn
  ·
    obtain ⟨b1, r1, rfl, h1⟩ := kSI_s h0
    obtain ⟨b2, r2, rfl, h2⟩ := kSI_s h1
    obtain ⟨rfl, h9⟩ := kS0_s h2
    exact ⟨Nat.le_of_ble_eq_true rfl, by refine GO.to (md_X10_alike N) (kl := []) ((fun _ z => absurd z List.not_mem_nil)) 50 ?_ ?_ <;> rfl⟩
  cases hn
def T_X10_shelve : List (Nat × Ent) := [(0, .iload_n 1, 1, []), (1, .invokestatic 345, 4, []), (4, .ifCond .eq 16, 7, [20]), (7, .iload_n 2, 8, []), (8, .iconst (-1), 9, []), (9, .if_icmp .eq 13, 12, [22]), (12, .aload_n 0, 13, []), (13, .iload_n 2, 14, []), (14, .invokevirtual 163, 17, []), (17, .ifCond .ne 5, 20, [22]), (20, .iconst (-1), 21, []), (21, .ireturn, 22, []), (22, .aload_n 0, 23, []), (23, .getfield 88, 26, []), (26, .iload_n 1, 27, []), (27, .iload_n 2, 28, []), (28, .ifCond .ge 7, 31, [35]), (31, .iconst (-1), 32, []), (32, .goto 4, 35, [36]), (35, .iconst 2, 36, []), (36, .iastore, 37, []), (37, .aload_n 0, 38, []), (38, .getfield 91, 41, []), (41, .iload_n 1, 42, []), (42, .iload_n 2, 43, []), (43, .ifCond .ge 7, 46, [50]), (46, .iconst 0, 47, []), (47, .goto 9, 50, [56]), (50, .aload_n 0, 51, []), (51, .getfield 21, 54, []), (54, .iload_n 2, 55, []), (55, .iaload, 56, []), (56, .iastore, 57, []), (57, .iconst 0, 58, []), (58, .istore_n 3, 59, []), (59, .iload_n 3, 60, []), (60, .aload_n 0, 61, []), (61, .getfield 91, 64, []), (64, .iload_n 1, 65, []), (65, .iaload, 66, []), (66, .if_icmp .ge 31, 69, [97]), (69, .aload_n 0, 70, []), (70, .getfield 94, 73, []), (73, .bipush 8, 75, []), (75, .iload_n 1, 76, []), (76, .imul, 77, []), (77, .iload_n 3, 78, []), (78, .iadd, 79, []), (79, .aload_n 0, 80, []), (80, .getfield 18, 83, []), (83, .bipush 8, 85, []), (85, .iload_n 2, 86, []), (86, .imul, 87, []), (87, .iload_n 3, 88, []), (88, .iadd, 89, []), (89, .iaload, 90, []), (90, .iastore, 91, []), (91, .iinc 3 1, 94, []), (94, .goto (-35), 97, [59]), (97, .iconst 1, 98, []), (98, .ireturn, 99, [])]
set_option maxRecDepth 200000 in
theorem tc_X10_shelve : T_X10_shelve.all (chk cX10_shelve) = true := by decide +kernel
def f_X10_shelve_L59 (N : Nat) (KO97 : Wd → Option (Int32 × Wd)) : Nat → Int32 → Int32 → Int32 → Wd → Option (Int32 × Wd)
  | 0, _, _, _, _ => none
  | n + 1, x1, x2, x3, σ => (xld σ 68 4 x1).bind fun v5 => if v5 ≤ x3 then (KO97 σ) else ((xld σ 44 96 ((8 * x2) + x3)).bind fun v6 => (xst σ 69 32 ((8 * x1) + x3) v6).bind fun σ7 => f_X10_shelve_L59 N KO97 n x1 x2 (x3 + 1) σ7)
def f_X10_shelve_J97 (N : Nat) (σ : Wd) : Option (Int32 × Wd) :=
  some (1, σ)
def f_X10_shelve_J36 (N : Nat) (x1 : Int32) (x2 : Int32) (y1 : Int32) (y2 : Int32) (σ : Wd) : Option (Int32 × Wd) :=
  (xst σ 67 4 y1 y2).bind fun σ2 => if 0 ≤ x2 then ((xld σ2 45 12 x2).bind fun v3 => (xst σ2 68 4 x1 v3).bind fun σ4 => f_X10_shelve_L59 N (f_X10_shelve_J97 N) N x1 x2 0 σ4) else ((xst σ2 68 4 x1 0).bind fun σ8 => f_X10_shelve_L59 N (f_X10_shelve_J97 N) N x1 x2 0 σ8)
def f_X10_shelve_J22 (N : Nat) (x1 : Int32) (x2 : Int32) (σ : Wd) : Option (Int32 × Wd) :=
  if 0 ≤ x2 then (f_X10_shelve_J36 N x1 x2 x1 2 σ) else (f_X10_shelve_J36 N x1 x2 x1 (-1) σ)
def f_X10_shelve (N : Nat) (a1 : Int32) (a2 : Int32) (σ : Wd) : Option (Int32 × Wd) :=
  (f_X10_isShelf N a1 σ).bind fun p1 => if p1.1 = 0 then (some ((-1), p1.2)) else (if a2 = (-1) then (f_X10_shelve_J22 N a1 a2 p1.2) else ((f_X10_isPlan N a2 p1.2).bind fun p9 => if p9.1 = 0 then (some ((-1), p9.2)) else (f_X10_shelve_J22 N a1 a2 p9.2)))
def a_X10_shelve (N : Nat) : List Value → Wd → Option (Int32 × Wd) := fun as σ => kSE 41 as (fun r0 => kSI r0 (fun b1 r1 => kSI r1 (fun b2 r2 => kS0 r2 (f_X10_shelve N b1 b2 σ)))) (none)
set_option maxRecDepth 200000 in
theorem k_X10_345 : calchk RX10 345 1 0 yX10_isShelf cX10_isShelf 1 (some .boolean) = true := by decide +kernel
def ct_X10_shelve (N : Nat) : List (Nat × Cal) := [(345, 1, 0, .inl (a_X10_isShelf N)), (163, 2, 10, .inl (a_X10_isPlan N))]
set_option maxRecDepth 200000 in
theorem md_X10_shelve (N : Nat) : MDOK T_X10_shelve ft_X10 lt_X10 (ct_X10_shelve N) cX10_shelve RX10 3 := ⟨tc_X10_shelve, fc_X10, lc_X10, List.forall_mem_cons.mpr ⟨Or.inl ⟨yX10_isShelf, cX10_isShelf, 1, (some .boolean), 2, k_X10_345, Nat.le_of_ble_eq_true rfl, C_X10_isShelf N⟩, List.forall_mem_cons.mpr ⟨Or.inl ⟨yX10_isPlan, cX10_isPlan, 2, (some .boolean), 2, k_X10_163, Nat.le_of_ble_eq_true rfl, C_X10_isPlan N⟩, (fun _ z => absurd z List.not_mem_nil)⟩⟩⟩
set_option maxRecDepth 200000 in
theorem g_X10_shelve_L59 (N : Nat) (KO97 : Wd → Option (Int32 × Wd)) (hKO97 : ∀ (σ : Wd), GO cX10_shelve RX10 4 3 sc0 rI nJ0 nV0 (KO97 σ) 97 (mkp 0 4 []) [] σ) : ∀ (n : Nat), ∀ (x1 : Int32) (x2 : Int32) (x3 : Int32) (σ : Wd), GO cX10_shelve RX10 4 3 sc0 rI nJ0 nV0 (f_X10_shelve_L59 N KO97 n x1 x2 x3 σ) 59 (mkp 0 4 [(0, .ref 41), (1, .int x1), (2, .int x2), (3, .int x3)]) [] σ
  | 0, x1, x2, x3, σ => GO.none
  | n + 1, x1, x2, x3, σ => by
    exact (by refine GO.to (md_X10_shelve N) (kl := [(97, fun vs st σ => kS0 st (KO97 σ)), (59, fun vs st σ => kS0 st (kA 0 41 vs (kI 1 vs (fun x1 => kI 2 vs (fun x2 => kI 3 vs (fun x3 => f_X10_shelve_L59 N KO97 n x1 x2 x3 σ))))))]) (List.forall_mem_cons.mpr ⟨fun vs st σ => go_kS0 (GO.pat [] trivial (hKO97 σ)), List.forall_mem_cons.mpr ⟨fun vs st σ => go_kS0 (go_kA (fun h0 => go_kI (fun x1 h1 => go_kI (fun x2 h2 => go_kI (fun x3 h3 => GO.pat [(0, .ref 41), (1, .int x1), (2, .int x2), (3, .int x3)] ⟨h0, h1, h2, h3, trivial⟩ (g_X10_shelve_L59 N KO97 hKO97 n x1 x2 x3 σ)))))), (fun _ z => absurd z List.not_mem_nil)⟩⟩) 66 ?_ ?_ <;> rfl)
set_option maxRecDepth 200000 in
theorem g_X10_shelve_J97 (N : Nat) (σ : Wd) : GO cX10_shelve RX10 4 3 sc0 rI nJ0 nV0 (f_X10_shelve_J97 N σ) 97 (mkp 0 4 []) [] σ := by
  exact (by refine GO.to (md_X10_shelve N) (kl := []) ((fun _ z => absurd z List.not_mem_nil)) 66 ?_ ?_ <;> rfl)
set_option maxRecDepth 200000 in
theorem g_X10_shelve_J36 (N : Nat) (x1 : Int32) (x2 : Int32) (y1 : Int32) (y2 : Int32) (σ : Wd) : GO cX10_shelve RX10 4 3 sc0 rI nJ0 nV0 (f_X10_shelve_J36 N x1 x2 y1 y2 σ) 36 (mkp 0 4 [(0, .ref 41), (1, .int x1), (2, .int x2)]) [.int y2, .int y1, .ref 67] σ := by
  exact (by refine GO.to (md_X10_shelve N) (kl := [(59, fun vs st σ => kS0 st (kA 0 41 vs (kI 1 vs (fun x1 => kI 2 vs (fun x2 => kI 3 vs (fun x3 => f_X10_shelve_L59 N (f_X10_shelve_J97 N) N x1 x2 x3 σ))))))]) (List.forall_mem_cons.mpr ⟨fun vs st σ => go_kS0 (go_kA (fun h0 => go_kI (fun x1 h1 => go_kI (fun x2 h2 => go_kI (fun x3 h3 => GO.pat [(0, .ref 41), (1, .int x1), (2, .int x2), (3, .int x3)] ⟨h0, h1, h2, h3, trivial⟩ (g_X10_shelve_L59 N (f_X10_shelve_J97 N) (g_X10_shelve_J97 N) N x1 x2 x3 σ)))))), (fun _ z => absurd z List.not_mem_nil)⟩) 66 ?_ ?_ <;> rfl)
set_option maxRecDepth 200000 in
theorem g_X10_shelve_J22 (N : Nat) (x1 : Int32) (x2 : Int32) (σ : Wd) : GO cX10_shelve RX10 4 3 sc0 rI nJ0 nV0 (f_X10_shelve_J22 N x1 x2 σ) 22 (mkp 0 4 [(0, .ref 41), (1, .int x1), (2, .int x2)]) [] σ := by
  exact (by refine GO.to (md_X10_shelve N) (kl := [(36, fun vs st σ => kStaii 67 st (fun y1 y2 => kA 0 41 vs (kI 1 vs (fun x1 => kI 2 vs (fun x2 => f_X10_shelve_J36 N x1 x2 y1 y2 σ)))))]) (List.forall_mem_cons.mpr ⟨fun vs st σ => go_kStaii (fun y1 y2 => go_kA (fun h0 => go_kI (fun x1 h1 => go_kI (fun x2 h2 => GO.pat [(0, .ref 41), (1, .int x1), (2, .int x2)] ⟨h0, h1, h2, trivial⟩ (g_X10_shelve_J36 N x1 x2 y1 y2 σ))))), (fun _ z => absurd z List.not_mem_nil)⟩) 66 ?_ ?_ <;> rfl)
set_option maxRecDepth 200000 in
theorem C_X10_shelve (N : Nat) : CTI 3 yX10_shelve cX10_shelve 4 (some .int) (a_X10_shelve N) := by
  refine CTI.of (own := RX10) (by decide) rfl (fun as σ r h => ?_)
  unfold a_X10_shelve at h
  rcases kSE_s h with ⟨r0, rfl, h0⟩ | hn
  ·
    obtain ⟨b1, r1, rfl, h1⟩ := kSI_s h0
    obtain ⟨b2, r2, rfl, h2⟩ := kSI_s h1
    obtain ⟨rfl, h9⟩ := kS0_s h2
    exact ⟨Nat.le_of_ble_eq_true rfl, by refine GO.to (md_X10_shelve N) (kl := [(22, fun vs st σ => kS0 st (kA 0 41 vs (kI 1 vs (fun x1 => kI 2 vs (fun x2 => f_X10_shelve_J22 N x1 x2 σ)))))]) (List.forall_mem_cons.mpr ⟨fun vs st σ => go_kS0 (go_kA (fun h0 => go_kI (fun x1 h1 => go_kI (fun x2 h2 => GO.pat [(0, .ref 41), (1, .int x1), (2, .int x2)] ⟨h0, h1, h2, trivial⟩ (g_X10_shelve_J22 N x1 x2 σ))))), (fun _ z => absurd z List.not_mem_nil)⟩) 66 ?_ ?_ <;> rfl⟩
  cases hn
def T_X10_taken : List (Nat × Ent) := [(0, .iload_n 1, 1, []), (1, .invokestatic 345, 4, []), (4, .ifCond .eq 15, 7, [19]), (7, .iload_n 2, 8, []), (8, .i2l, 9, []), (9, .lconst 0, 10, []), (10, .ldc2_w 323, 13, []), (13, .invokestatic 104, 16, []), (16, .ifCond .ne 5, 19, [21]), (19, .iconst (-1), 20, []), (20, .ireturn, 21, []), (21, .aload_n 0, 22, []), (22, .getfield 88, 25, []), (25, .iload_n 1, 26, []), (26, .iaload, 27, []), (27, .iconst 2, 28, []), (28, .if_icmp .eq 20, 31, [48]), (31, .aload_n 0, 32, []), (32, .getfield 88, 35, []), (35, .iload_n 1, 36, []), (36, .iaload, 37, []), (37, .ifCond .ge 8, 40, [45]), (40, .bipush (-11), 42, []), (42, .goto 5, 45, [47]), (45, .bipush (-12), 47, []), (47, .ireturn, 48, []), (48, .iload_n 2, 49, []), (49, .ifCond .ne 21, 52, [70]), (52, .aload_n 0, 53, []), (53, .getfield 94, 56, []), (56, .bipush 8, 58, []), (58, .iload_n 1, 59, []), (59, .imul, 60, []), (60, .aload_n 0, 61, []), (61, .getfield 91, 64, []), (64, .iload_n 1, 65, []), (65, .iaload, 66, []), (66, .invokestatic 108, 69, []), (69, .ireturn, 70, []), (70, .iconst 0, 71, []), (71, .istore_n 3, 72, []), (72, .iconst 0, 73, []), (73, .istore 4, 75, []), (75, .iload 4, 77, []), (77, .aload_n 0, 78, []), (78, .getfield 100, 81, []), (81, .if_icmp .ge 53, 84, [134]), (84, .iload_n 3, 85, []), (85, .aload_n 0, 86, []), (86, .getfield 18, 89, []), (89, .bipush 8, 91, []), (91, .iload 4, 93, []), (93, .imul, 94, []), (94, .aload_n 0, 95, []), (95, .getfield 21, 98, []), (98, .iload 4, 100, []), (100, .iaload, 101, []), (101, .aload_n 0, 102, []), (102, .getfield 94, 105, []), (105, .bipush 8, 107, []), (107, .iload_n 1, 108, []), (108, .imul, 109, []), (109, .aload_n 0, 110, []), (110, .getfield 91, 113, []), (113, .iload_n 1, 114, []), (114, .iaload, 115, []), (115, .invokestatic 142, 118, []), (118, .ifCond .eq 7, 121, [125]), (121, .iconst 1, 122, []), (122, .goto 4, 125, [126]), (125, .iconst 0, 126, []), (126, .iadd, 127, []), (127, .istore_n 3, 128, []), (128, .iinc 4 1, 131, []), (131, .goto (-56), 134, [75]), (134, .iload_n 2, 135, []), (135, .iconst 2, 136, []), (136, .if_icmp .ne 7, 139, [143]), (139, .iload_n 3, 140, []), (140, .goto 29, 143, [169]), (143, .aload_n 0, 144, []), (144, .aload_n 0, 145, []), (145, .getfield 94, 148, []), (148, .bipush 8, 150, []), (150, .iload_n 1, 151, []), (151, .imul, 152, []), (152, .aload_n 0, 153, []), (153, .getfield 91, 156, []), (156, .iload_n 1, 157, []), (157, .iaload, 158, []), (158, .invokevirtual 173, 161, []), (161, .ifCond .lt 7, 164, [168]), (164, .iconst 1, 165, []), (165, .goto 4, 168, [169]), (168, .iconst 0, 169, []), (169, .ireturn, 170, [])]
set_option maxRecDepth 200000 in
theorem tc_X10_taken : T_X10_taken.all (chk cX10_taken) = true := by decide +kernel
def f_X10_taken_L75 (N : Nat) (KO134 : Int32 → Int32 → Int32 → Wd → Option (Int32 × Wd)) : Nat → Int32 → Int32 → Int32 → Int32 → Wd → Option (Int32 × Wd)
  | 0, _, _, _, _, _ => none
  | n + 1, x1, x2, x3, x4, σ => if (σ.1 41 4) ≤ x4 then (KO134 x1 x2 x3 σ) else ((xld σ 45 12 x4).bind fun v6 => (xld σ 68 4 x1).bind fun v7 => (f_X10_areAlike N 44 96 69 32 (8 * x4) v6 (8 * x1) v7 σ).bind fun p8 => if p8.1 = 0 then (f_X10_taken_L75 N KO134 n x1 x2 (x3 + 0) (x4 + 1) p8.2) else (f_X10_taken_L75 N KO134 n x1 x2 (x3 + 1) (x4 + 1) p8.2))
def f_X10_taken_J134 (N : Nat) (x1 : Int32) (x2 : Int32) (x3 : Int32) (σ : Wd) : Option (Int32 × Wd) :=
  if x2 = 2 then (some (x3, σ)) else ((xld σ 68 4 x1).bind fun v9 => (f_X10_placeKnown N 69 32 (8 * x1) v9 σ).bind fun p10 => if p10.1 < 0 then (some (0, p10.2)) else (some (1, p10.2)))
def f_X10_taken (N : Nat) (a1 : Int32) (a2 : Int32) (σ : Wd) : Option (Int32 × Wd) :=
  (f_X10_isShelf N a1 σ).bind fun p1 => if p1.1 = 0 then (some ((-1), p1.2)) else ((f_X10_in N (Int32.toInt64 a2) 0 2 p1.2).bind fun p2 => if p2.1 = 0 then (some ((-1), p2.2)) else ((xld p2.2 67 4 a1).bind fun v3 => if v3 = 2 then (if a2 = 0 then ((xld p2.2 68 4 a1).bind fun v4 => (f_X10_widthOf N 69 32 (8 * a1) v4 p2.2).bind fun p5 => some (p5.1, p5.2)) else (f_X10_taken_L75 N (f_X10_taken_J134 N) N a1 a2 0 0 p2.2)) else ((xld p2.2 67 4 a1).bind fun v11 => if 0 ≤ v11 then (some ((-12), p2.2)) else (some ((-11), p2.2)))))
def a_X10_taken (N : Nat) : List Value → Wd → Option (Int32 × Wd) := fun as σ => kSE 41 as (fun r0 => kSI r0 (fun b1 r1 => kSI r1 (fun b2 r2 => kS0 r2 (f_X10_taken N b1 b2 σ)))) (none)
def ct_X10_taken (N : Nat) : List (Nat × Cal) := [(345, 1, 0, .inl (a_X10_isShelf N)), (104, 3, 0, .inl (a_X10_in N)), (108, 3, 0, .inl (a_X10_widthOf N)), (142, 6, 0, .inl (a_X10_areAlike N)), (173, 4, 10, .inl (a_X10_placeKnown N))]
set_option maxRecDepth 200000 in
theorem md_X10_taken (N : Nat) : MDOK T_X10_taken ft_X10 lt_X10 (ct_X10_taken N) cX10_taken RX10 3 := ⟨tc_X10_taken, fc_X10, lc_X10, List.forall_mem_cons.mpr ⟨Or.inl ⟨yX10_isShelf, cX10_isShelf, 1, (some .boolean), 2, k_X10_345, Nat.le_of_ble_eq_true rfl, C_X10_isShelf N⟩, List.forall_mem_cons.mpr ⟨Or.inl ⟨yX10_in, cX10_in, 6, (some .boolean), 1, k_X10_104, Nat.le_of_ble_eq_true rfl, C_X10_in N⟩, List.forall_mem_cons.mpr ⟨Or.inl ⟨yX10_widthOf, cX10_widthOf, 5, (some .int), 1, k_X10_108, Nat.le_of_ble_eq_true rfl, C_X10_widthOf N⟩, List.forall_mem_cons.mpr ⟨Or.inl ⟨yX10_areAlike, cX10_areAlike, 8, (some .boolean), 1, k_X10_142, Nat.le_of_ble_eq_true rfl, C_X10_areAlike N⟩, List.forall_mem_cons.mpr ⟨Or.inl ⟨yX10_placeKnown, cX10_placeKnown, 6, (some .int), 2, k_X10_173, Nat.le_of_ble_eq_true rfl, C_X10_placeKnown N⟩, (fun _ z => absurd z List.not_mem_nil)⟩⟩⟩⟩⟩⟩
set_option maxRecDepth 200000 in
theorem g_X10_taken_L75 (N : Nat) (KO134 : Int32 → Int32 → Int32 → Wd → Option (Int32 × Wd)) (hKO134 : ∀ (x1 : Int32) (x2 : Int32) (x3 : Int32) (σ : Wd), GO cX10_taken RX10 5 3 sc0 rI nJ0 nV0 (KO134 x1 x2 x3 σ) 134 (mkp 0 5 [(0, .ref 41), (1, .int x1), (2, .int x2), (3, .int x3)]) [] σ) : ∀ (n : Nat), ∀ (x1 : Int32) (x2 : Int32) (x3 : Int32) (x4 : Int32) (σ : Wd), GO cX10_taken RX10 5 3 sc0 rI nJ0 nV0 (f_X10_taken_L75 N KO134 n x1 x2 x3 x4 σ) 75 (mkp 0 5 [(0, .ref 41), (1, .int x1), (2, .int x2), (3, .int x3), (4, .int x4)]) [] σ
  | 0, x1, x2, x3, x4, σ => GO.none
  | n + 1, x1, x2, x3, x4, σ => by
    exact (by refine GO.to (md_X10_taken N) (kl := [(134, fun vs st σ => kS0 st (kA 0 41 vs (kI 1 vs (fun x1 => kI 2 vs (fun x2 => kI 3 vs (fun x3 => KO134 x1 x2 x3 σ)))))), (75, fun vs st σ => kS0 st (kA 0 41 vs (kI 1 vs (fun x1 => kI 2 vs (fun x2 => kI 3 vs (fun x3 => kI 4 vs (fun x4 => f_X10_taken_L75 N KO134 n x1 x2 x3 x4 σ)))))))]) (List.forall_mem_cons.mpr ⟨fun vs st σ => go_kS0 (go_kA (fun h0 => go_kI (fun x1 h1 => go_kI (fun x2 h2 => go_kI (fun x3 h3 => GO.pat [(0, .ref 41), (1, .int x1), (2, .int x2), (3, .int x3)] ⟨h0, h1, h2, h3, trivial⟩ (hKO134 x1 x2 x3 σ)))))), List.forall_mem_cons.mpr ⟨fun vs st σ => go_kS0 (go_kA (fun h0 => go_kI (fun x1 h1 => go_kI (fun x2 h2 => go_kI (fun x3 h3 => go_kI (fun x4 h4 => GO.pat [(0, .ref 41), (1, .int x1), (2, .int x2), (3, .int x3), (4, .int x4)] ⟨h0, h1, h2, h3, h4, trivial⟩ (g_X10_taken_L75 N KO134 hKO134 n x1 x2 x3 x4 σ))))))), (fun _ z => absurd z List.not_mem_nil)⟩⟩) 101 ?_ ?_ <;> rfl)
set_option maxRecDepth 200000 in
theorem g_X10_taken_J134 (N : Nat) (x1 : Int32) (x2 : Int32) (x3 : Int32) (σ : Wd) : GO cX10_taken RX10 5 3 sc0 rI nJ0 nV0 (f_X10_taken_J134 N x1 x2 x3 σ) 134 (mkp 0 5 [(0, .ref 41), (1, .int x1), (2, .int x2), (3, .int x3)]) [] σ := by
  exact (by refine GO.to (md_X10_taken N) (kl := []) ((fun _ z => absurd z List.not_mem_nil)) 101 ?_ ?_ <;> rfl)
set_option maxRecDepth 200000 in
theorem C_X10_taken (N : Nat) : CTI 3 yX10_taken cX10_taken 5 (some .int) (a_X10_taken N) := by
  refine CTI.of (own := RX10) (by decide) rfl (fun as σ r h => ?_)
  unfold a_X10_taken at h
  rcases kSE_s h with ⟨r0, rfl, h0⟩ | hn
  ·
    obtain ⟨b1, r1, rfl, h1⟩ := kSI_s h0
    obtain ⟨b2, r2, rfl, h2⟩ := kSI_s h1
    obtain ⟨rfl, h9⟩ := kS0_s h2
    exact ⟨Nat.le_of_ble_eq_true rfl, by refine GO.to (md_X10_taken N) (kl := [(75, fun vs st σ => kS0 st (kA 0 41 vs (kI 1 vs (fun x1 => kI 2 vs (fun x2 => kI 3 vs (fun x3 => kI 4 vs (fun x4 => f_X10_taken_L75 N (f_X10_taken_J134 N) N x1 x2 x3 x4 σ)))))))]) (List.forall_mem_cons.mpr ⟨fun vs st σ => go_kS0 (go_kA (fun h0 => go_kI (fun x1 h1 => go_kI (fun x2 h2 => go_kI (fun x3 h3 => go_kI (fun x4 h4 => GO.pat [(0, .ref 41), (1, .int x1), (2, .int x2), (3, .int x3), (4, .int x4)] ⟨h0, h1, h2, h3, h4, trivial⟩ (g_X10_taken_L75 N (f_X10_taken_J134 N) (g_X10_taken_J134 N) N x1 x2 x3 x4 σ))))))), (fun _ z => absurd z List.not_mem_nil)⟩) 101 ?_ ?_ <;> rfl⟩
  cases hn
def T_X10_row : List (Nat × Ent) := [(0, .iload_n 1, 1, []), (1, .invokestatic 345, 4, []), (4, .ifCond .eq 19, 7, [23]), (7, .iload_n 2, 8, []), (8, .i2l, 9, []), (9, .lconst 0, 10, []), (10, .lconst 1, 11, []), (11, .invokestatic 104, 14, []), (14, .ifCond .eq 9, 17, [23]), (17, .iload_n 3, 18, []), (18, .bipush 20, 20, []), (20, .if_icmp .le 5, 23, [25]), (23, .iconst (-1), 24, []), (24, .ireturn, 25, []), (25, .iload_n 3, 26, []), (26, .ifCond .ge 6, 29, [32]), (29, .bipush (-14), 31, []), (31, .ireturn, 32, []), (32, .aload_n 0, 33, []), (33, .getfield 88, 36, []), (36, .iload_n 1, 37, []), (37, .iload_n 2, 38, []), (38, .iastore, 39, []), (39, .aload_n 0, 40, []), (40, .getfield 91, 43, []), (43, .iload_n 1, 44, []), (44, .iload_n 3, 45, []), (45, .iastore, 46, []), (46, .iconst 0, 47, []), (47, .istore 4, 49, []), (49, .iload 4, 51, []), (51, .bipush 20, 53, []), (53, .if_icmp .ge 22, 56, [75]), (56, .aload_n 0, 57, []), (57, .getfield 97, 60, []), (60, .bipush 20, 62, []), (62, .iload_n 1, 63, []), (63, .imul, 64, []), (64, .iload 4, 66, []), (66, .iadd, 67, []), (67, .lconst 0, 68, []), (68, .lastore, 69, []), (69, .iinc 4 1, 72, []), (72, .goto (-23), 75, [49]), (75, .iconst 1, 76, []), (76, .ireturn, 77, [])]
set_option maxRecDepth 200000 in
theorem tc_X10_row : T_X10_row.all (chk cX10_row) = true := by decide +kernel
def f_X10_row_L49 (N : Nat) (KO75 : Wd → Option (Int32 × Wd)) : Nat → Int32 → Int32 → Wd → Option (Int32 × Wd)
  | 0, _, _, _ => none
  | n + 1, x1, x4, σ => if 20 ≤ x4 then (KO75 σ) else ((xstL σ 70 80 ((20 * x1) + x4) 0).bind fun σ5 => f_X10_row_L49 N KO75 n x1 (x4 + 1) σ5)
def f_X10_row_J75 (N : Nat) (σ : Wd) : Option (Int32 × Wd) :=
  some (1, σ)
def f_X10_row (N : Nat) (a1 : Int32) (a2 : Int32) (a3 : Int32) (σ : Wd) : Option (Int32 × Wd) :=
  (f_X10_isShelf N a1 σ).bind fun p1 => if p1.1 = 0 then (some ((-1), p1.2)) else ((f_X10_in N (Int32.toInt64 a2) 0 1 p1.2).bind fun p2 => if p2.1 = 0 then (some ((-1), p2.2)) else (if a3 ≤ 20 then (if 0 ≤ a3 then ((xst p2.2 67 4 a1 a2).bind fun σ3 => (xst σ3 68 4 a1 a3).bind fun σ4 => f_X10_row_L49 N (f_X10_row_J75 N) N a1 0 σ4) else (some ((-14), p2.2))) else (some ((-1), p2.2))))
def a_X10_row (N : Nat) : List Value → Wd → Option (Int32 × Wd) := fun as σ => kSE 41 as (fun r0 => kSI r0 (fun b1 r1 => kSI r1 (fun b2 r2 => kSI r2 (fun b3 r3 => kS0 r3 (f_X10_row N b1 b2 b3 σ))))) (none)
def ct_X10_row (N : Nat) : List (Nat × Cal) := [(345, 1, 0, .inl (a_X10_isShelf N)), (104, 3, 0, .inl (a_X10_in N))]
set_option maxRecDepth 200000 in
theorem md_X10_row (N : Nat) : MDOK T_X10_row ft_X10 lt_X10 (ct_X10_row N) cX10_row RX10 3 := ⟨tc_X10_row, fc_X10, lc_X10, List.forall_mem_cons.mpr ⟨Or.inl ⟨yX10_isShelf, cX10_isShelf, 1, (some .boolean), 2, k_X10_345, Nat.le_of_ble_eq_true rfl, C_X10_isShelf N⟩, List.forall_mem_cons.mpr ⟨Or.inl ⟨yX10_in, cX10_in, 6, (some .boolean), 1, k_X10_104, Nat.le_of_ble_eq_true rfl, C_X10_in N⟩, (fun _ z => absurd z List.not_mem_nil)⟩⟩⟩
set_option maxRecDepth 200000 in
theorem g_X10_row_L49 (N : Nat) (KO75 : Wd → Option (Int32 × Wd)) (hKO75 : ∀ (σ : Wd), GO cX10_row RX10 5 3 sc0 rI nJ0 nV0 (KO75 σ) 75 (mkp 0 5 []) [] σ) : ∀ (n : Nat), ∀ (x1 : Int32) (x4 : Int32) (σ : Wd), GO cX10_row RX10 5 3 sc0 rI nJ0 nV0 (f_X10_row_L49 N KO75 n x1 x4 σ) 49 (mkp 0 5 [(0, .ref 41), (1, .int x1), (4, .int x4)]) [] σ
  | 0, x1, x4, σ => GO.none
  | n + 1, x1, x4, σ => by
    exact (by refine GO.to (md_X10_row N) (kl := [(75, fun vs st σ => kS0 st (KO75 σ)), (49, fun vs st σ => kS0 st (kA 0 41 vs (kI 1 vs (fun x1 => kI 4 vs (fun x4 => f_X10_row_L49 N KO75 n x1 x4 σ)))))]) (List.forall_mem_cons.mpr ⟨fun vs st σ => go_kS0 (GO.pat [] trivial (hKO75 σ)), List.forall_mem_cons.mpr ⟨fun vs st σ => go_kS0 (go_kA (fun h0 => go_kI (fun x1 h1 => go_kI (fun x4 h4 => GO.pat [(0, .ref 41), (1, .int x1), (4, .int x4)] ⟨h0, h1, h4, trivial⟩ (g_X10_row_L49 N KO75 hKO75 n x1 x4 σ))))), (fun _ z => absurd z List.not_mem_nil)⟩⟩) 51 ?_ ?_ <;> rfl)
set_option maxRecDepth 200000 in
theorem g_X10_row_J75 (N : Nat) (σ : Wd) : GO cX10_row RX10 5 3 sc0 rI nJ0 nV0 (f_X10_row_J75 N σ) 75 (mkp 0 5 []) [] σ := by
  exact (by refine GO.to (md_X10_row N) (kl := []) ((fun _ z => absurd z List.not_mem_nil)) 51 ?_ ?_ <;> rfl)
set_option maxRecDepth 200000 in
theorem C_X10_row (N : Nat) : CTI 3 yX10_row cX10_row 5 (some .int) (a_X10_row N) := by
  refine CTI.of (own := RX10) (by decide) rfl (fun as σ r h => ?_)
  unfold a_X10_row at h
  rcases kSE_s h with ⟨r0, rfl, h0⟩ | hn
  ·
    obtain ⟨b1, r1, rfl, h1⟩ := kSI_s h0
    obtain ⟨b2, r2, rfl, h2⟩ := kSI_s h1
    obtain ⟨b3, r3, rfl, h3⟩ := kSI_s h2
    obtain ⟨rfl, h9⟩ := kS0_s h3
    exact ⟨Nat.le_of_ble_eq_true rfl, by refine GO.to (md_X10_row N) (kl := [(49, fun vs st σ => kS0 st (kA 0 41 vs (kI 1 vs (fun x1 => kI 4 vs (fun x4 => f_X10_row_L49 N (f_X10_row_J75 N) N x1 x4 σ)))))]) (List.forall_mem_cons.mpr ⟨fun vs st σ => go_kS0 (go_kA (fun h0 => go_kI (fun x1 h1 => go_kI (fun x4 h4 => GO.pat [(0, .ref 41), (1, .int x1), (4, .int x4)] ⟨h0, h1, h4, trivial⟩ (g_X10_row_L49 N (f_X10_row_J75 N) (g_X10_row_J75 N) N x1 x4 σ))))), (fun _ z => absurd z List.not_mem_nil)⟩) 51 ?_ ?_ <;> rfl⟩
  cases hn
def T_X10_put : List (Nat × Ent) := [(0, .iload_n 1, 1, []), (1, .invokestatic 345, 4, []), (4, .ifCond .ne 5, 7, [9]), (7, .iconst (-1), 8, []), (8, .ireturn, 9, []), (9, .aload_n 0, 10, []), (10, .getfield 88, 13, []), (13, .iload_n 1, 14, []), (14, .iaload, 15, []), (15, .ifCond .lt 13, 18, [28]), (18, .aload_n 0, 19, []), (19, .getfield 88, 22, []), (22, .iload_n 1, 23, []), (23, .iaload, 24, []), (24, .iconst 2, 25, []), (25, .if_icmp .ne 20, 28, [45]), (28, .aload_n 0, 29, []), (29, .getfield 88, 32, []), (32, .iload_n 1, 33, []), (33, .iaload, 34, []), (34, .ifCond .ge 8, 37, [42]), (37, .bipush (-11), 39, []), (39, .goto 5, 42, [44]), (42, .bipush (-12), 44, []), (44, .ireturn, 45, []), (45, .iload_n 2, 46, []), (46, .i2l, 47, []), (47, .lconst 0, 48, []), (48, .aload_n 0, 49, []), (49, .getfield 91, 52, []), (52, .iload_n 1, 53, []), (53, .iaload, 54, []), (54, .iconst 1, 55, []), (55, .isub, 56, []), (56, .i2l, 57, []), (57, .invokestatic 104, 60, []), (60, .ifCond .ne 6, 63, [66]), (63, .bipush (-13), 65, []), (65, .ireturn, 66, []), (66, .aload_n 0, 67, []), (67, .getfield 97, 70, []), (70, .bipush 20, 72, []), (72, .iload_n 1, 73, []), (73, .imul, 74, []), (74, .iload_n 2, 75, []), (75, .iadd, 76, []), (76, .aload_n 0, 77, []), (77, .getfield 88, 80, []), (80, .iload_n 1, 81, []), (81, .iaload, 82, []), (82, .iconst 1, 83, []), (83, .if_icmp .ne 10, 86, [93]), (86, .lload_n 3, 87, []), (87, .l2i, 88, []), (88, .i2b, 89, []), (89, .i2l, 90, []), (90, .goto 4, 93, [94]), (93, .lload_n 3, 94, []), (94, .lastore, 95, []), (95, .iconst 1, 96, []), (96, .ireturn, 97, [])]
set_option maxRecDepth 200000 in
theorem tc_X10_put : T_X10_put.all (chk cX10_put) = true := by decide +kernel
def f_X10_put_J28 (N : Nat) (x1 : Int32) (σ : Wd) : Option (Int32 × Wd) :=
  (xld σ 67 4 x1).bind fun v3 => if 0 ≤ v3 then (some ((-12), σ)) else (some ((-11), σ))
def f_X10_put (N : Nat) (a1 : Int32) (a2 : Int32) (a3 : Int64) (σ : Wd) : Option (Int32 × Wd) :=
  (f_X10_isShelf N a1 σ).bind fun p1 => if p1.1 = 0 then (some ((-1), p1.2)) else ((xld p1.2 67 4 a1).bind fun v2 => if v2 < 0 then (f_X10_put_J28 N a1 p1.2) else ((xld p1.2 67 4 a1).bind fun v4 => if v4 = 2 then (f_X10_put_J28 N a1 p1.2) else ((xld p1.2 68 4 a1).bind fun v5 => (f_X10_in N (Int32.toInt64 a2) 0 (Int32.toInt64 (v5 - 1)) p1.2).bind fun p6 => if p6.1 = 0 then (some ((-13), p6.2)) else ((xld p6.2 67 4 a1).bind fun v7 => if v7 = 1 then ((xstL p6.2 70 80 ((20 * a1) + a2) (Int32.toInt64 ((Int32.toInt8 (Int64.toInt32 a3)).toInt32))).bind fun σ8 => some (1, σ8)) else ((xstL p6.2 70 80 ((20 * a1) + a2) a3).bind fun σ9 => some (1, σ9))))))
def a_X10_put (N : Nat) : List Value → Wd → Option (Int32 × Wd) := fun as σ => kSE 41 as (fun r0 => kSI r0 (fun b1 r1 => kSI r1 (fun b2 r2 => kSJ r2 (fun b3 r3 => kS0 r3 (f_X10_put N b1 b2 b3 σ))))) (none)
def ct_X10_put (N : Nat) : List (Nat × Cal) := [(345, 1, 0, .inl (a_X10_isShelf N)), (104, 3, 0, .inl (a_X10_in N))]
set_option maxRecDepth 200000 in
theorem md_X10_put (N : Nat) : MDOK T_X10_put ft_X10 lt_X10 (ct_X10_put N) cX10_put RX10 3 := ⟨tc_X10_put, fc_X10, lc_X10, List.forall_mem_cons.mpr ⟨Or.inl ⟨yX10_isShelf, cX10_isShelf, 1, (some .boolean), 2, k_X10_345, Nat.le_of_ble_eq_true rfl, C_X10_isShelf N⟩, List.forall_mem_cons.mpr ⟨Or.inl ⟨yX10_in, cX10_in, 6, (some .boolean), 1, k_X10_104, Nat.le_of_ble_eq_true rfl, C_X10_in N⟩, (fun _ z => absurd z List.not_mem_nil)⟩⟩⟩
set_option maxRecDepth 200000 in
theorem g_X10_put_J28 (N : Nat) (x1 : Int32) (σ : Wd) : GO cX10_put RX10 5 3 sc0 rI nJ0 nV0 (f_X10_put_J28 N x1 σ) 28 (mkp 0 5 [(0, .ref 41), (1, .int x1)]) [] σ := by
  exact (by refine GO.to (md_X10_put N) (kl := []) ((fun _ z => absurd z List.not_mem_nil)) 66 ?_ ?_ <;> rfl)
set_option maxRecDepth 200000 in
theorem C_X10_put (N : Nat) : CTI 3 yX10_put cX10_put 5 (some .int) (a_X10_put N) := by
  refine CTI.of (own := RX10) (by decide) rfl (fun as σ r h => ?_)
  unfold a_X10_put at h
  rcases kSE_s h with ⟨r0, rfl, h0⟩ | hn
  ·
    obtain ⟨b1, r1, rfl, h1⟩ := kSI_s h0
    obtain ⟨b2, r2, rfl, h2⟩ := kSI_s h1
    obtain ⟨b3, r3, rfl, h3⟩ := kSJ_s h2
    obtain ⟨rfl, h9⟩ := kS0_s h3
    exact ⟨Nat.le_of_ble_eq_true rfl, by refine GO.to (md_X10_put N) (kl := [(28, fun vs st σ => kS0 st (kA 0 41 vs (kI 1 vs (fun x1 => f_X10_put_J28 N x1 σ))))]) (List.forall_mem_cons.mpr ⟨fun vs st σ => go_kS0 (go_kA (fun h0 => go_kI (fun x1 h1 => GO.pat [(0, .ref 41), (1, .int x1)] ⟨h0, h1, trivial⟩ (g_X10_put_J28 N x1 σ)))), (fun _ z => absurd z List.not_mem_nil)⟩) 66 ?_ ?_ <;> rfl⟩
  cases hn
def T_X10_get : List (Nat × Ent) := [(0, .iload_n 1, 1, []), (1, .invokestatic 345, 4, []), (4, .ifCond .eq 40, 7, [44]), (7, .aload_n 0, 8, []), (8, .getfield 88, 11, []), (11, .iload_n 1, 12, []), (12, .iaload, 13, []), (13, .i2l, 14, []), (14, .lconst 0, 15, []), (15, .lconst 1, 16, []), (16, .invokestatic 104, 19, []), (19, .ifCond .eq 25, 22, [44]), (22, .iload_n 2, 23, []), (23, .i2l, 24, []), (24, .lconst 0, 25, []), (25, .aload_n 0, 26, []), (26, .getfield 91, 29, []), (29, .iload_n 1, 30, []), (30, .iaload, 31, []), (31, .iconst 1, 32, []), (32, .isub, 33, []), (33, .i2l, 34, []), (34, .invokestatic 104, 37, []), (37, .ifCond .eq 7, 40, [44]), (40, .iconst 1, 41, []), (41, .goto 4, 44, [45]), (44, .iconst 0, 45, []), (45, .istore_n 3, 46, []), (46, .iload_n 3, 47, []), (47, .ifCond .eq 17, 50, [64]), (50, .aload_n 0, 51, []), (51, .getfield 97, 54, []), (54, .bipush 20, 56, []), (56, .iload_n 1, 57, []), (57, .imul, 58, []), (58, .iload_n 2, 59, []), (59, .iadd, 60, []), (60, .laload, 61, []), (61, .goto 6, 64, [67]), (64, .ldc2_w 343, 67, []), (67, .lreturn, 68, [])]
set_option maxRecDepth 200000 in
theorem tc_X10_get : T_X10_get.all (chk cX10_get) = true := by decide +kernel
def f_X10_get_J45 (N : Nat) (x1 : Int32) (x2 : Int32) (y0 : Int32) (σ : Wd) : Option (Int64 × Wd) :=
  if y0 = 0 then (some ((-9223372036854775808), σ)) else ((xldL σ 70 80 ((20 * x1) + x2)).bind fun v2 => some (v2, σ))
def f_X10_get_J44 (N : Nat) (x1 : Int32) (x2 : Int32) (σ : Wd) : Option (Int64 × Wd) :=
  f_X10_get_J45 N x1 x2 0 σ
def f_X10_get (N : Nat) (a1 : Int32) (a2 : Int32) (σ : Wd) : Option (Int64 × Wd) :=
  (f_X10_isShelf N a1 σ).bind fun p1 => if p1.1 = 0 then (f_X10_get_J44 N a1 a2 p1.2) else ((xld p1.2 67 4 a1).bind fun v3 => (f_X10_in N (Int32.toInt64 v3) 0 1 p1.2).bind fun p4 => if p4.1 = 0 then (f_X10_get_J44 N a1 a2 p4.2) else ((xld p4.2 68 4 a1).bind fun v5 => (f_X10_in N (Int32.toInt64 a2) 0 (Int32.toInt64 (v5 - 1)) p4.2).bind fun p6 => if p6.1 = 0 then (f_X10_get_J44 N a1 a2 p6.2) else (f_X10_get_J45 N a1 a2 1 p6.2)))
def a_X10_get (N : Nat) : List Value → Wd → Option (Int64 × Wd) := fun as σ => kSE 41 as (fun r0 => kSI r0 (fun b1 r1 => kSI r1 (fun b2 r2 => kS0 r2 (f_X10_get N b1 b2 σ)))) (none)
def ct_X10_get (N : Nat) : List (Nat × Cal) := [(345, 1, 0, .inl (a_X10_isShelf N)), (104, 3, 0, .inl (a_X10_in N))]
set_option maxRecDepth 200000 in
theorem md_X10_get (N : Nat) : MDOK T_X10_get ft_X10 lt_X10 (ct_X10_get N) cX10_get RX10 3 := ⟨tc_X10_get, fc_X10, lc_X10, List.forall_mem_cons.mpr ⟨Or.inl ⟨yX10_isShelf, cX10_isShelf, 1, (some .boolean), 2, k_X10_345, Nat.le_of_ble_eq_true rfl, C_X10_isShelf N⟩, List.forall_mem_cons.mpr ⟨Or.inl ⟨yX10_in, cX10_in, 6, (some .boolean), 1, k_X10_104, Nat.le_of_ble_eq_true rfl, C_X10_in N⟩, (fun _ z => absurd z List.not_mem_nil)⟩⟩⟩
set_option maxRecDepth 200000 in
theorem g_X10_get_J45 (N : Nat) (x1 : Int32) (x2 : Int32) (y0 : Int32) (σ : Wd) : GO cX10_get RX10 4 3 sc0 nI0 rJ nV0 (f_X10_get_J45 N x1 x2 y0 σ) 45 (mkp 0 4 [(0, .ref 41), (1, .int x1), (2, .int x2)]) [.int y0] σ := by
  exact (by refine GO.to (md_X10_get N) (kl := []) ((fun _ z => absurd z List.not_mem_nil)) 46 ?_ ?_ <;> rfl)
set_option maxRecDepth 200000 in
theorem g_X10_get_J44 (N : Nat) (x1 : Int32) (x2 : Int32) (σ : Wd) : GO cX10_get RX10 4 3 sc0 nI0 rJ nV0 (f_X10_get_J44 N x1 x2 σ) 44 (mkp 0 4 [(0, .ref 41), (1, .int x1), (2, .int x2)]) [] σ := by
  exact (by refine GO.to (md_X10_get N) (kl := [(45, fun vs st σ => kSti st (fun y0 => kA 0 41 vs (kI 1 vs (fun x1 => kI 2 vs (fun x2 => f_X10_get_J45 N x1 x2 y0 σ)))))]) (List.forall_mem_cons.mpr ⟨fun vs st σ => go_kSti (fun y0 => go_kA (fun h0 => go_kI (fun x1 h1 => go_kI (fun x2 h2 => GO.pat [(0, .ref 41), (1, .int x1), (2, .int x2)] ⟨h0, h1, h2, trivial⟩ (g_X10_get_J45 N x1 x2 y0 σ))))), (fun _ z => absurd z List.not_mem_nil)⟩) 46 ?_ ?_ <;> rfl)
set_option maxRecDepth 200000 in
theorem C_X10_get (N : Nat) : CTL 3 yX10_get cX10_get 4 (some .long) (a_X10_get N) := by
  refine CTL.of (own := RX10) (by decide) rfl (fun as σ r h => ?_)
  unfold a_X10_get at h
  rcases kSE_s h with ⟨r0, rfl, h0⟩ | hn
  ·
    obtain ⟨b1, r1, rfl, h1⟩ := kSI_s h0
    obtain ⟨b2, r2, rfl, h2⟩ := kSI_s h1
    obtain ⟨rfl, h9⟩ := kS0_s h2
    exact ⟨Nat.le_of_ble_eq_true rfl, by refine GO.to (md_X10_get N) (kl := [(44, fun vs st σ => kS0 st (kA 0 41 vs (kI 1 vs (fun x1 => kI 2 vs (fun x2 => f_X10_get_J44 N x1 x2 σ))))), (45, fun vs st σ => kSti st (fun y0 => kA 0 41 vs (kI 1 vs (fun x1 => kI 2 vs (fun x2 => f_X10_get_J45 N x1 x2 y0 σ)))))]) (List.forall_mem_cons.mpr ⟨fun vs st σ => go_kS0 (go_kA (fun h0 => go_kI (fun x1 h1 => go_kI (fun x2 h2 => GO.pat [(0, .ref 41), (1, .int x1), (2, .int x2)] ⟨h0, h1, h2, trivial⟩ (g_X10_get_J44 N x1 x2 σ))))), List.forall_mem_cons.mpr ⟨fun vs st σ => go_kSti (fun y0 => go_kA (fun h0 => go_kI (fun x1 h1 => go_kI (fun x2 h2 => GO.pat [(0, .ref 41), (1, .int x1), (2, .int x2)] ⟨h0, h1, h2, trivial⟩ (g_X10_get_J45 N x1 x2 y0 σ))))), (fun _ z => absurd z List.not_mem_nil)⟩⟩) 46 ?_ ?_ <;> rfl⟩
  cases hn
def T_X10_from : List (Nat × Ent) := [(0, .iload_n 1, 1, []), (1, .invokestatic 345, 4, []), (4, .ifCond .eq 13, 7, [17]), (7, .iload_n 2, 8, []), (8, .i2l, 9, []), (9, .lconst 0, 10, []), (10, .lconst 1, 11, []), (11, .invokestatic 104, 14, []), (14, .ifCond .ne 5, 17, [19]), (17, .iconst (-1), 18, []), (18, .ireturn, 19, []), (19, .aload_n 0, 20, []), (20, .getfield 88, 23, []), (23, .iload_n 1, 24, []), (24, .iaload, 25, []), (25, .iconst 1, 26, []), (26, .if_icmp .eq 20, 29, [46]), (29, .aload_n 0, 30, []), (30, .getfield 88, 33, []), (33, .iload_n 1, 34, []), (34, .iaload, 35, []), (35, .ifCond .ge 8, 38, [43]), (38, .bipush (-11), 40, []), (40, .goto 5, 43, [45]), (43, .bipush (-12), 45, []), (45, .ireturn, 46, []), (46, .iconst 0, 47, []), (47, .istore_n 3, 48, []), (48, .iload_n 3, 49, []), (49, .aload_n 0, 50, []), (50, .getfield 91, 53, []), (53, .iload_n 1, 54, []), (54, .iaload, 55, []), (55, .if_icmp .ge 59, 58, [114]), (58, .iload_n 3, 59, []), (59, .bipush 12, 61, []), (61, .if_icmp .ge 53, 64, [114]), (64, .aload_n 0, 65, []), (65, .getfield 97, 68, []), (68, .bipush 20, 70, []), (70, .iload_n 1, 71, []), (71, .imul, 72, []), (72, .iload_n 3, 73, []), (73, .iadd, 74, []), (74, .laload, 75, []), (75, .lconst 0, 76, []), (76, .ldc2_w 190, 79, []), (79, .invokestatic 104, 82, []), (82, .ifCond .eq 32, 85, [114]), (85, .aload_n 0, 86, []), (86, .getfield 42, 89, []), (89, .bipush 12, 91, []), (91, .iload_n 2, 92, []), (92, .imul, 93, []), (93, .iload_n 3, 94, []), (94, .iadd, 95, []), (95, .aload_n 0, 96, []), (96, .getfield 97, 99, []), (99, .bipush 20, 101, []), (101, .iload_n 1, 102, []), (102, .imul, 103, []), (103, .iload_n 3, 104, []), (104, .iadd, 105, []), (105, .laload, 106, []), (106, .l2i, 107, []), (107, .iastore, 108, []), (108, .iinc 3 1, 111, []), (111, .goto (-63), 114, [48]), (114, .aload_n 0, 115, []), (115, .iload_n 3, 116, []), (116, .ifCond .le 7, 119, [123]), (119, .iconst 0, 120, []), (120, .goto 7, 123, [127]), (123, .aload_n 0, 124, []), (124, .getfield 170, 127, []), (127, .putfield 170, 130, []), (130, .iload_n 3, 131, []), (131, .ireturn, 132, [])]
set_option maxRecDepth 200000 in
theorem tc_X10_from : T_X10_from.all (chk cX10_from) = true := by decide +kernel
def f_X10_from_L48 (N : Nat) (KO114 : Int32 → Wd → Option (Int32 × Wd)) : Nat → Int32 → Int32 → Int32 → Wd → Option (Int32 × Wd)
  | 0, _, _, _, _ => none
  | n + 1, x1, x2, x3, σ => (xld σ 68 4 x1).bind fun v4 => if v4 ≤ x3 then (KO114 x3 σ) else (if 12 ≤ x3 then (KO114 x3 σ) else ((xldL σ 70 80 ((20 * x1) + x3)).bind fun v5 => (f_X10_in N v5 0 99 σ).bind fun p6 => if p6.1 = 0 then (KO114 x3 p6.2) else ((xldL p6.2 70 80 ((20 * x1) + x3)).bind fun v7 => (xst p6.2 52 25 ((12 * x2) + x3) (Int64.toInt32 v7)).bind fun σ8 => f_X10_from_L48 N KO114 n x1 x2 (x3 + 1) σ8)))
def f_X10_from_J114 (N : Nat) (x3 : Int32) (σ : Wd) : Option (Int32 × Wd) :=
  if x3 ≤ 0 then (let σ9 : Wd := sF σ 41 14 (σ.1 41 14)
  some (x3, σ9)) else (let σ10 : Wd := sF σ 41 14 0
  some (x3, σ10))
def f_X10_from (N : Nat) (a1 : Int32) (a2 : Int32) (σ : Wd) : Option (Int32 × Wd) :=
  (f_X10_isShelf N a1 σ).bind fun p1 => if p1.1 = 0 then (some ((-1), p1.2)) else ((f_X10_in N (Int32.toInt64 a2) 0 1 p1.2).bind fun p2 => if p2.1 = 0 then (some ((-1), p2.2)) else ((xld p2.2 67 4 a1).bind fun v3 => if v3 = 1 then (f_X10_from_L48 N (f_X10_from_J114 N) N a1 a2 0 p2.2) else ((xld p2.2 67 4 a1).bind fun v11 => if 0 ≤ v11 then (some ((-12), p2.2)) else (some ((-11), p2.2)))))
def a_X10_from (N : Nat) : List Value → Wd → Option (Int32 × Wd) := fun as σ => kSE 41 as (fun r0 => kSI r0 (fun b1 r1 => kSI r1 (fun b2 r2 => kS0 r2 (f_X10_from N b1 b2 σ)))) (none)
def ct_X10_from (N : Nat) : List (Nat × Cal) := [(345, 1, 0, .inl (a_X10_isShelf N)), (104, 3, 0, .inl (a_X10_in N))]
set_option maxRecDepth 200000 in
theorem md_X10_from (N : Nat) : MDOK T_X10_from ft_X10 lt_X10 (ct_X10_from N) cX10_from RX10 3 := ⟨tc_X10_from, fc_X10, lc_X10, List.forall_mem_cons.mpr ⟨Or.inl ⟨yX10_isShelf, cX10_isShelf, 1, (some .boolean), 2, k_X10_345, Nat.le_of_ble_eq_true rfl, C_X10_isShelf N⟩, List.forall_mem_cons.mpr ⟨Or.inl ⟨yX10_in, cX10_in, 6, (some .boolean), 1, k_X10_104, Nat.le_of_ble_eq_true rfl, C_X10_in N⟩, (fun _ z => absurd z List.not_mem_nil)⟩⟩⟩
set_option maxRecDepth 200000 in
theorem g_X10_from_L48 (N : Nat) (KO114 : Int32 → Wd → Option (Int32 × Wd)) (hKO114 : ∀ (x3 : Int32) (σ : Wd), GO cX10_from RX10 4 3 sc0 rI nJ0 nV0 (KO114 x3 σ) 114 (mkp 0 4 [(0, .ref 41), (3, .int x3)]) [] σ) : ∀ (n : Nat), ∀ (x1 : Int32) (x2 : Int32) (x3 : Int32) (σ : Wd), GO cX10_from RX10 4 3 sc0 rI nJ0 nV0 (f_X10_from_L48 N KO114 n x1 x2 x3 σ) 48 (mkp 0 4 [(0, .ref 41), (1, .int x1), (2, .int x2), (3, .int x3)]) [] σ
  | 0, x1, x2, x3, σ => GO.none
  | n + 1, x1, x2, x3, σ => by
    exact (by refine GO.to (md_X10_from N) (kl := [(114, fun vs st σ => kS0 st (kA 0 41 vs (kI 3 vs (fun x3 => KO114 x3 σ)))), (48, fun vs st σ => kS0 st (kA 0 41 vs (kI 1 vs (fun x1 => kI 2 vs (fun x2 => kI 3 vs (fun x3 => f_X10_from_L48 N KO114 n x1 x2 x3 σ))))))]) (List.forall_mem_cons.mpr ⟨fun vs st σ => go_kS0 (go_kA (fun h0 => go_kI (fun x3 h3 => GO.pat [(0, .ref 41), (3, .int x3)] ⟨h0, h3, trivial⟩ (hKO114 x3 σ)))), List.forall_mem_cons.mpr ⟨fun vs st σ => go_kS0 (go_kA (fun h0 => go_kI (fun x1 h1 => go_kI (fun x2 h2 => go_kI (fun x3 h3 => GO.pat [(0, .ref 41), (1, .int x1), (2, .int x2), (3, .int x3)] ⟨h0, h1, h2, h3, trivial⟩ (g_X10_from_L48 N KO114 hKO114 n x1 x2 x3 σ)))))), (fun _ z => absurd z List.not_mem_nil)⟩⟩) 83 ?_ ?_ <;> rfl)
set_option maxRecDepth 200000 in
theorem g_X10_from_J114 (N : Nat) (x3 : Int32) (σ : Wd) : GO cX10_from RX10 4 3 sc0 rI nJ0 nV0 (f_X10_from_J114 N x3 σ) 114 (mkp 0 4 [(0, .ref 41), (3, .int x3)]) [] σ := by
  exact (by refine GO.to (md_X10_from N) (kl := []) ((fun _ z => absurd z List.not_mem_nil)) 83 ?_ ?_ <;> rfl)
set_option maxRecDepth 200000 in
theorem C_X10_from (N : Nat) : CTI 3 yX10_from cX10_from 4 (some .int) (a_X10_from N) := by
  refine CTI.of (own := RX10) (by decide) rfl (fun as σ r h => ?_)
  unfold a_X10_from at h
  rcases kSE_s h with ⟨r0, rfl, h0⟩ | hn
  ·
    obtain ⟨b1, r1, rfl, h1⟩ := kSI_s h0
    obtain ⟨b2, r2, rfl, h2⟩ := kSI_s h1
    obtain ⟨rfl, h9⟩ := kS0_s h2
    exact ⟨Nat.le_of_ble_eq_true rfl, by refine GO.to (md_X10_from N) (kl := [(48, fun vs st σ => kS0 st (kA 0 41 vs (kI 1 vs (fun x1 => kI 2 vs (fun x2 => kI 3 vs (fun x3 => f_X10_from_L48 N (f_X10_from_J114 N) N x1 x2 x3 σ))))))]) (List.forall_mem_cons.mpr ⟨fun vs st σ => go_kS0 (go_kA (fun h0 => go_kI (fun x1 h1 => go_kI (fun x2 h2 => go_kI (fun x3 h3 => GO.pat [(0, .ref 41), (1, .int x1), (2, .int x2), (3, .int x3)] ⟨h0, h1, h2, h3, trivial⟩ (g_X10_from_L48 N (f_X10_from_J114 N) (g_X10_from_J114 N) N x1 x2 x3 σ)))))), (fun _ z => absurd z List.not_mem_nil)⟩) 83 ?_ ?_ <;> rfl⟩
  cases hn
def T_X10_read : List (Nat × Ent) := [(0, .aload_n 0, 1, []), (1, .invokevirtual 149, 4, []), (4, .aload_n 0, 5, []), (5, .getfield 122, 8, []), (8, .ifCond .le 16, 11, [24]), (11, .aload_n 0, 12, []), (12, .invokevirtual 125, 15, []), (15, .bipush 61, 17, []), (17, .if_icmp .ne 7, 20, [24]), (20, .iconst 1, 21, []), (21, .goto 4, 24, [25]), (24, .iconst 0, 25, []), (25, .istore_n 1, 26, []), (26, .aload_n 0, 27, []), (27, .dup, 28, []), (28, .getfield 119, 31, []), (31, .iload_n 1, 32, []), (32, .ifCond .eq 7, 35, [39]), (35, .iconst 1, 36, []), (36, .goto 4, 39, [40]), (39, .iconst 0, 40, []), (40, .iadd, 41, []), (41, .putfield 119, 44, []), (44, .iload_n 1, 45, []), (45, .ifCond .eq 14, 48, [59]), (48, .aload_n 0, 49, []), (49, .invokevirtual 152, 52, []), (52, .ifCond .eq 7, 55, [59]), (55, .iconst 1, 56, []), (56, .goto 4, 59, [60]), (59, .iconst 0, 60, []), (60, .istore_n 1, 61, []), (61, .aload_n 0, 62, []), (62, .iconst 0, 63, []), (63, .putfield 116, 66, []), (66, .iload_n 1, 67, []), (67, .ifCond .eq 18, 70, [85]), (70, .aload_n 0, 71, []), (71, .aload_n 0, 72, []), (72, .getfield 30, 75, []), (75, .aload_n 0, 76, []), (76, .getfield 133, 79, []), (79, .invokevirtual 156, 82, []), (82, .goto 10, 85, [92]), (85, .bipush (-100), 87, []), (87, .aload_n 0, 88, []), (88, .getfield 119, 91, []), (91, .isub, 92, []), (92, .ireturn, 93, [])]
set_option maxRecDepth 200000 in
theorem tc_X10_read : T_X10_read.all (chk cX10_read) = true := by decide +kernel
def f_X10_read_J60 (N : Nat) (y0 : Int32) (σ : Wd) : Option (Int32 × Wd) :=
  let σ3 : Wd := sF σ 41 8 0
  if y0 = 0 then (some ((-100) - (σ3.1 41 11), σ3)) else ((f_X10_becomes N 48 8 (σ3.1 41 10) σ3).bind fun p4 => some (p4.1, p4.2))
def f_X10_read_J59 (N : Nat) (σ : Wd) : Option (Int32 × Wd) :=
  f_X10_read_J60 N 0 σ
def f_X10_read_J40 (N : Nat) (x1 : Int32) (y1 : Int32) (y2 : Int32) (σ : Wd) : Option (Int32 × Wd) :=
  let σ2 : Wd := sF σ 41 11 (y1 + y2)
  if x1 = 0 then (f_X10_read_J59 N σ2) else ((f_X10_areBlocks N σ2).bind fun p5 => if p5.1 = 0 then (f_X10_read_J59 N p5.2) else (f_X10_read_J60 N 1 p5.2))
def f_X10_read_J25 (N : Nat) (y0 : Int32) (σ : Wd) : Option (Int32 × Wd) :=
  if y0 = 0 then (f_X10_read_J40 N y0 (σ.1 41 11) 0 σ) else (f_X10_read_J40 N y0 (σ.1 41 11) 1 σ)
def f_X10_read_J24 (N : Nat) (σ : Wd) : Option (Int32 × Wd) :=
  f_X10_read_J25 N 0 σ
def f_X10_read (N : Nat) (σ : Wd) : Option (Int32 × Wd) :=
  (f_X10_readsName N σ).bind fun σ1 => if (σ1.1 41 9) ≤ 0 then (f_X10_read_J24 N σ1) else ((f_X10_here N σ1).bind fun p6 => if p6.1 = 61 then (f_X10_read_J25 N 1 p6.2) else (f_X10_read_J24 N p6.2))
def a_X10_read (N : Nat) : List Value → Wd → Option (Int32 × Wd) := fun as σ => kSE 41 as (fun r0 => kS0 r0 (f_X10_read N σ)) (none)
set_option maxRecDepth 200000 in
theorem k_X10_156 : calchk RX10 156 3 10 yX10_becomes cX10_becomes 5 (some .int) = true := by decide +kernel
set_option maxRecDepth 200000 in
theorem k_X10_152 : calchk RX10 152 1 10 yX10_areBlocks cX10_areBlocks 5 (some .boolean) = true := by decide +kernel
def ct_X10_read (N : Nat) : List (Nat × Cal) := [(149, 1, 10, .inr (.inr (a_X10_readsName N))), (156, 3, 10, .inl (a_X10_becomes N)), (152, 1, 10, .inl (a_X10_areBlocks N)), (125, 1, 10, .inl (a_X10_here N))]
set_option maxRecDepth 200000 in
theorem md_X10_read (N : Nat) : MDOK T_X10_read ft_X10 lt_X10 (ct_X10_read N) cX10_read RX10 4 := ⟨tc_X10_read, fc_X10, lc_X10, List.forall_mem_cons.mpr ⟨Or.inl ⟨yX10_readsName, cX10_readsName, 1, none, 2, k_X10_149, Nat.le_of_ble_eq_true rfl, C_X10_readsName N⟩, List.forall_mem_cons.mpr ⟨Or.inl ⟨yX10_becomes, cX10_becomes, 5, (some .int), 3, k_X10_156, Nat.le_of_ble_eq_true rfl, C_X10_becomes N⟩, List.forall_mem_cons.mpr ⟨Or.inl ⟨yX10_areBlocks, cX10_areBlocks, 5, (some .boolean), 2, k_X10_152, Nat.le_of_ble_eq_true rfl, C_X10_areBlocks N⟩, List.forall_mem_cons.mpr ⟨Or.inl ⟨yX10_here, cX10_here, 1, (some .int), 1, k_X10_125, Nat.le_of_ble_eq_true rfl, C_X10_here N⟩, (fun _ z => absurd z List.not_mem_nil)⟩⟩⟩⟩⟩
set_option maxRecDepth 200000 in
theorem g_X10_read_J60 (N : Nat) (y0 : Int32) (σ : Wd) : GO cX10_read RX10 2 4 sc0 rI nJ0 nV0 (f_X10_read_J60 N y0 σ) 60 (mkp 0 2 [(0, .ref 41)]) [.int y0] σ := by
  exact (by refine GO.to (md_X10_read N) (kl := []) ((fun _ z => absurd z List.not_mem_nil)) 54 ?_ ?_ <;> rfl)
set_option maxRecDepth 200000 in
theorem g_X10_read_J59 (N : Nat) (σ : Wd) : GO cX10_read RX10 2 4 sc0 rI nJ0 nV0 (f_X10_read_J59 N σ) 59 (mkp 0 2 [(0, .ref 41)]) [] σ := by
  exact (by refine GO.to (md_X10_read N) (kl := [(60, fun vs st σ => kSti st (fun y0 => kA 0 41 vs (f_X10_read_J60 N y0 σ)))]) (List.forall_mem_cons.mpr ⟨fun vs st σ => go_kSti (fun y0 => go_kA (fun h0 => GO.pat [(0, .ref 41)] ⟨h0, trivial⟩ (g_X10_read_J60 N y0 σ))), (fun _ z => absurd z List.not_mem_nil)⟩) 54 ?_ ?_ <;> rfl)
set_option maxRecDepth 200000 in
theorem g_X10_read_J40 (N : Nat) (x1 : Int32) (y1 : Int32) (y2 : Int32) (σ : Wd) : GO cX10_read RX10 2 4 sc0 rI nJ0 nV0 (f_X10_read_J40 N x1 y1 y2 σ) 40 (mkp 0 2 [(0, .ref 41), (1, .int x1)]) [.int y2, .int y1, .ref 41] σ := by
  exact (by refine GO.to (md_X10_read N) (kl := [(59, fun vs st σ => kS0 st (kA 0 41 vs (f_X10_read_J59 N σ))), (60, fun vs st σ => kSti st (fun y0 => kA 0 41 vs (f_X10_read_J60 N y0 σ)))]) (List.forall_mem_cons.mpr ⟨fun vs st σ => go_kS0 (go_kA (fun h0 => GO.pat [(0, .ref 41)] ⟨h0, trivial⟩ (g_X10_read_J59 N σ))), List.forall_mem_cons.mpr ⟨fun vs st σ => go_kSti (fun y0 => go_kA (fun h0 => GO.pat [(0, .ref 41)] ⟨h0, trivial⟩ (g_X10_read_J60 N y0 σ))), (fun _ z => absurd z List.not_mem_nil)⟩⟩) 54 ?_ ?_ <;> rfl)
set_option maxRecDepth 200000 in
theorem g_X10_read_J25 (N : Nat) (y0 : Int32) (σ : Wd) : GO cX10_read RX10 2 4 sc0 rI nJ0 nV0 (f_X10_read_J25 N y0 σ) 25 (mkp 0 2 [(0, .ref 41)]) [.int y0] σ := by
  exact (by refine GO.to (md_X10_read N) (kl := [(40, fun vs st σ => kStaii 41 st (fun y1 y2 => kA 0 41 vs (kI 1 vs (fun x1 => f_X10_read_J40 N x1 y1 y2 σ))))]) (List.forall_mem_cons.mpr ⟨fun vs st σ => go_kStaii (fun y1 y2 => go_kA (fun h0 => go_kI (fun x1 h1 => GO.pat [(0, .ref 41), (1, .int x1)] ⟨h0, h1, trivial⟩ (g_X10_read_J40 N x1 y1 y2 σ)))), (fun _ z => absurd z List.not_mem_nil)⟩) 54 ?_ ?_ <;> rfl)
set_option maxRecDepth 200000 in
theorem g_X10_read_J24 (N : Nat) (σ : Wd) : GO cX10_read RX10 2 4 sc0 rI nJ0 nV0 (f_X10_read_J24 N σ) 24 (mkp 0 2 [(0, .ref 41)]) [] σ := by
  exact (by refine GO.to (md_X10_read N) (kl := [(25, fun vs st σ => kSti st (fun y0 => kA 0 41 vs (f_X10_read_J25 N y0 σ)))]) (List.forall_mem_cons.mpr ⟨fun vs st σ => go_kSti (fun y0 => go_kA (fun h0 => GO.pat [(0, .ref 41)] ⟨h0, trivial⟩ (g_X10_read_J25 N y0 σ))), (fun _ z => absurd z List.not_mem_nil)⟩) 54 ?_ ?_ <;> rfl)
set_option maxRecDepth 200000 in
theorem C_X10_read (N : Nat) : CTI 4 yX10_read cX10_read 2 (some .int) (a_X10_read N) := by
  refine CTI.of (own := RX10) (by decide) rfl (fun as σ r h => ?_)
  unfold a_X10_read at h
  rcases kSE_s h with ⟨r0, rfl, h0⟩ | hn
  ·
    obtain ⟨rfl, h9⟩ := kS0_s h0
    exact ⟨Nat.le_of_ble_eq_true rfl, by refine GO.to (md_X10_read N) (kl := [(24, fun vs st σ => kS0 st (kA 0 41 vs (f_X10_read_J24 N σ))), (25, fun vs st σ => kSti st (fun y0 => kA 0 41 vs (f_X10_read_J25 N y0 σ)))]) (List.forall_mem_cons.mpr ⟨fun vs st σ => go_kS0 (go_kA (fun h0 => GO.pat [(0, .ref 41)] ⟨h0, trivial⟩ (g_X10_read_J24 N σ))), List.forall_mem_cons.mpr ⟨fun vs st σ => go_kSti (fun y0 => go_kA (fun h0 => GO.pat [(0, .ref 41)] ⟨h0, trivial⟩ (g_X10_read_J25 N y0 σ))), (fun _ z => absurd z List.not_mem_nil)⟩⟩) 54 ?_ ?_ <;> rfl⟩
  cases hn
def T_X10_find : List (Nat × Ent) := [(0, .aload_n 0, 1, []), (1, .invokevirtual 160, 4, []), (4, .ifCond .eq 10, 7, [14]), (7, .aload_n 0, 8, []), (8, .invokevirtual 146, 11, []), (11, .goto 5, 14, [16]), (14, .bipush (-2), 16, []), (16, .ireturn, 17, [])]
set_option maxRecDepth 200000 in
theorem tc_X10_find : T_X10_find.all (chk cX10_find) = true := by decide +kernel
def f_X10_find (N : Nat) (σ : Wd) : Option (Int32 × Wd) :=
  (f_X10_isNamed N σ).bind fun p1 => if p1.1 = 0 then (some ((-2), p1.2)) else ((f_X10_planNamed N p1.2).bind fun p2 => some (p2.1, p2.2))
def a_X10_find (N : Nat) : List Value → Wd → Option (Int32 × Wd) := fun as σ => kSE 41 as (fun r0 => kS0 r0 (f_X10_find N σ)) (none)
set_option maxRecDepth 200000 in
theorem k_X10_160 : calchk RX10 160 1 10 yX10_isNamed cX10_isNamed 2 (some .boolean) = true := by decide +kernel
def ct_X10_find (N : Nat) : List (Nat × Cal) := [(160, 1, 10, .inl (a_X10_isNamed N)), (146, 1, 10, .inl (a_X10_planNamed N))]
set_option maxRecDepth 200000 in
theorem md_X10_find (N : Nat) : MDOK T_X10_find ft_X10 lt_X10 (ct_X10_find N) cX10_find RX10 4 := ⟨tc_X10_find, fc_X10, lc_X10, List.forall_mem_cons.mpr ⟨Or.inl ⟨yX10_isNamed, cX10_isNamed, 2, (some .boolean), 3, k_X10_160, Nat.le_of_ble_eq_true rfl, C_X10_isNamed N⟩, List.forall_mem_cons.mpr ⟨Or.inl ⟨yX10_planNamed, cX10_planNamed, 3, (some .int), 2, k_X10_146, Nat.le_of_ble_eq_true rfl, C_X10_planNamed N⟩, (fun _ z => absurd z List.not_mem_nil)⟩⟩⟩
set_option maxRecDepth 200000 in
theorem C_X10_find (N : Nat) : CTI 4 yX10_find cX10_find 1 (some .int) (a_X10_find N) := by
  refine CTI.of (own := RX10) (by decide) rfl (fun as σ r h => ?_)
  unfold a_X10_find at h
  rcases kSE_s h with ⟨r0, rfl, h0⟩ | hn
  ·
    obtain ⟨rfl, h9⟩ := kS0_s h0
    exact ⟨Nat.le_of_ble_eq_true rfl, by refine GO.to (md_X10_find N) (kl := []) ((fun _ z => absurd z List.not_mem_nil)) 13 ?_ ?_ <;> rfl⟩
  cases hn
def T_X10_p : List (Nat × Ent) := [(0, .aload_n 0, 1, []), (1, .iload_n 1, 2, []), (2, .bipush 12, 4, []), (4, .iload_n 1, 5, []), (5, .iadd, 6, []), (6, .invokevirtual 202, 9, []), (9, .ireturn, 10, [])]
set_option maxRecDepth 200000 in
theorem tc_X10_p : T_X10_p.all (chk cX10_p) = true := by decide +kernel
def f_X10_p (N : Nat) (a1 : Int32) (σ : Wd) : Option (Int32 × Wd) :=
  (f_X10_xor N a1 (12 + a1) σ).bind fun p1 => some (p1.1, p1.2)
def a_X10_p (N : Nat) : List Value → Wd → Option (Int32 × Wd) := fun as σ => kSE 41 as (fun r0 => kSI r0 (fun b1 r1 => kS0 r1 (f_X10_p N b1 σ))) (none)
set_option maxRecDepth 200000 in
theorem k_X10_202 : calchk RX10 202 3 10 yX10_xor cX10_xor 3 (some .int) = true := by decide +kernel
def ct_X10_p (N : Nat) : List (Nat × Cal) := [(202, 3, 10, .inl (a_X10_xor N))]
set_option maxRecDepth 200000 in
theorem md_X10_p (N : Nat) : MDOK T_X10_p ft_X10 lt_X10 (ct_X10_p N) cX10_p RX10 4 := ⟨tc_X10_p, fc_X10, lc_X10, List.forall_mem_cons.mpr ⟨Or.inl ⟨yX10_xor, cX10_xor, 3, (some .int), 3, k_X10_202, Nat.le_of_ble_eq_true rfl, C_X10_xor N⟩, (fun _ z => absurd z List.not_mem_nil)⟩⟩
set_option maxRecDepth 200000 in
theorem C_X10_p (N : Nat) : CTI 4 yX10_p cX10_p 2 (some .int) (a_X10_p N) := by
  refine CTI.of (own := RX10) (by decide) rfl (fun as σ r h => ?_)
  unfold a_X10_p at h
  rcases kSE_s h with ⟨r0, rfl, h0⟩ | hn
  ·
    obtain ⟨b1, r1, rfl, h1⟩ := kSI_s h0
    obtain ⟨rfl, h9⟩ := kS0_s h1
    exact ⟨Nat.le_of_ble_eq_true rfl, by refine GO.to (md_X10_p N) (kl := []) ((fun _ z => absurd z List.not_mem_nil)) 12 ?_ ?_ <;> rfl⟩
  cases hn
def T_X10_ripples : List (Nat × Ent) := [(0, .iload_n 3, 1, []), (1, .istore 5, 3, []), (3, .iload_n 1, 4, []), (4, .istore 6, 6, []), (6, .iload 6, 8, []), (8, .iload_n 1, 9, []), (9, .iload_n 2, 10, []), (10, .iadd, 11, []), (11, .if_icmp .ge 50, 14, [61]), (14, .aload 4, 16, []), (16, .iload 6, 18, []), (18, .aload_n 0, 19, []), (19, .aload_n 0, 20, []), (20, .iload 6, 22, []), (22, .invokevirtual 208, 25, []), (25, .iload 5, 27, []), (27, .invokevirtual 202, 30, []), (30, .iastore, 31, []), (31, .aload_n 0, 32, []), (32, .aload_n 0, 33, []), (33, .iload 6, 35, []), (35, .invokevirtual 211, 38, []), (38, .aload_n 0, 39, []), (39, .aload_n 0, 40, []), (40, .iload 6, 42, []), (42, .invokevirtual 208, 45, []), (45, .iload 5, 47, []), (47, .invokevirtual 205, 50, []), (50, .invokevirtual 214, 53, []), (53, .istore 5, 55, []), (55, .iinc 6 1, 58, []), (58, .goto (-52), 61, [6]), (61, .iload 5, 63, []), (63, .ireturn, 64, [])]
set_option maxRecDepth 200000 in
theorem tc_X10_ripples : T_X10_ripples.all (chk cX10_ripples) = true := by decide +kernel
def f_X10_ripples_L6 (N : Nat) (K4 K4L : Nat) (KO61 : Int32 → Wd → Option (Int32 × Wd)) : Nat → Int32 → Int32 → Int32 → Int32 → Wd → Option (Int32 × Wd)
  | 0, _, _, _, _, _ => none
  | n + 1, x1, x2, x5, x6, σ => if (x1 + x2) ≤ x6 then (KO61 x5 σ) else ((f_X10_p N x6 σ).bind fun p1 => (f_X10_xor N p1.1 x5 p1.2).bind fun p2 => (xst p2.2 K4 K4L x6 p2.1).bind fun σ3 => (f_X10_g N x6 σ3).bind fun p4 => (f_X10_p N x6 p4.2).bind fun p5 => (f_X10_and N p5.1 x5 p5.2).bind fun p6 => (f_X10_or N p4.1 p6.1 p6.2).bind fun p7 => f_X10_ripples_L6 N K4 K4L KO61 n x1 x2 p7.1 (x6 + 1) p7.2)
def f_X10_ripples_J61 (N : Nat) (K4 K4L : Nat) (x5 : Int32) (σ : Wd) : Option (Int32 × Wd) :=
  some (x5, σ)
def f_X10_ripples (N : Nat) (K4 K4L : Nat) (a1 : Int32) (a2 : Int32) (a3 : Int32) (σ : Wd) : Option (Int32 × Wd) :=
  f_X10_ripples_L6 N K4 K4L (f_X10_ripples_J61 N K4 K4L) N a1 a2 a3 a1 σ
def a_X10_ripples (N : Nat) : List Value → Wd → Option (Int32 × Wd) := fun as σ => kSE 41 as (fun r0 => kSI r0 (fun b1 r1 => kSI r1 (fun b2 r2 => kSI r2 (fun b3 r3 => kSE 60 r3 (fun r4 => kS0 r4 (f_X10_ripples N 60 13 b1 b2 b3 σ)) (kSE 61 r3 (fun r4 => kS0 r4 (f_X10_ripples N 61 12 b1 b2 b3 σ)) (kSE 62 r3 (fun r4 => kS0 r4 (f_X10_ripples N 62 12 b1 b2 b3 σ)) (none))))))) (none)
set_option maxRecDepth 200000 in
theorem k_X10_208 : calchk RX10 208 2 10 yX10_p cX10_p 2 (some .int) = true := by decide +kernel
set_option maxRecDepth 200000 in
theorem k_X10_211 : calchk RX10 211 2 10 yX10_g cX10_g 2 (some .int) = true := by decide +kernel
set_option maxRecDepth 200000 in
theorem k_X10_214 : calchk RX10 214 3 10 yX10_or cX10_or 3 (some .int) = true := by decide +kernel
def ct_X10_ripples (N : Nat) : List (Nat × Cal) := [(208, 2, 10, .inl (a_X10_p N)), (202, 3, 10, .inl (a_X10_xor N)), (211, 2, 10, .inl (a_X10_g N)), (205, 3, 10, .inl (a_X10_and N)), (214, 3, 10, .inl (a_X10_or N))]
set_option maxRecDepth 200000 in
theorem md_X10_ripples (N : Nat) : MDOK T_X10_ripples ft_X10 lt_X10 (ct_X10_ripples N) cX10_ripples RX10 5 := ⟨tc_X10_ripples, fc_X10, lc_X10, List.forall_mem_cons.mpr ⟨Or.inl ⟨yX10_p, cX10_p, 2, (some .int), 4, k_X10_208, Nat.le_of_ble_eq_true rfl, C_X10_p N⟩, List.forall_mem_cons.mpr ⟨Or.inl ⟨yX10_xor, cX10_xor, 3, (some .int), 3, k_X10_202, Nat.le_of_ble_eq_true rfl, C_X10_xor N⟩, List.forall_mem_cons.mpr ⟨Or.inl ⟨yX10_g, cX10_g, 2, (some .int), 3, k_X10_211, Nat.le_of_ble_eq_true rfl, C_X10_g N⟩, List.forall_mem_cons.mpr ⟨Or.inl ⟨yX10_and, cX10_and, 3, (some .int), 2, k_X10_205, Nat.le_of_ble_eq_true rfl, C_X10_and N⟩, List.forall_mem_cons.mpr ⟨Or.inl ⟨yX10_or, cX10_or, 3, (some .int), 2, k_X10_214, Nat.le_of_ble_eq_true rfl, C_X10_or N⟩, (fun _ z => absurd z List.not_mem_nil)⟩⟩⟩⟩⟩⟩
set_option maxRecDepth 200000 in
theorem g_X10_ripples_L6 (N : Nat) (K4 K4L : Nat) (hK4 : (K4 = 60 ∧ K4L = 13) ∨ (K4 = 61 ∧ K4L = 12) ∨ (K4 = 62 ∧ K4L = 12)) (KO61 : Int32 → Wd → Option (Int32 × Wd)) (hKO61 : ∀ (x5 : Int32) (σ : Wd), GO cX10_ripples RX10 7 5 sc0 rI nJ0 nV0 (KO61 x5 σ) 61 (mkp 0 7 [(5, .int x5)]) [] σ) : ∀ (n : Nat), ∀ (x1 : Int32) (x2 : Int32) (x5 : Int32) (x6 : Int32) (σ : Wd), GO cX10_ripples RX10 7 5 sc0 rI nJ0 nV0 (f_X10_ripples_L6 N K4 K4L KO61 n x1 x2 x5 x6 σ) 6 (mkp 0 7 [(0, .ref 41), (1, .int x1), (2, .int x2), (4, .ref K4), (5, .int x5), (6, .int x6)]) [] σ
  | 0, x1, x2, x5, x6, σ => GO.none
  | n + 1, x1, x2, x5, x6, σ => by
    rcases hK4 with ⟨rfl, rfl⟩ | ⟨rfl, rfl⟩ | ⟨rfl, rfl⟩
    · exact (by refine GO.to (md_X10_ripples N) (kl := [(61, fun vs st σ => kS0 st (kI 5 vs (fun x5 => KO61 x5 σ))), (6, fun vs st σ => kS0 st (kA 0 41 vs (kI 1 vs (fun x1 => kI 2 vs (fun x2 => kA 4 60 vs (kI 5 vs (fun x5 => kI 6 vs (fun x6 => f_X10_ripples_L6 N 60 13 KO61 n x1 x2 x5 x6 σ))))))))]) (List.forall_mem_cons.mpr ⟨fun vs st σ => go_kS0 (go_kI (fun x5 h5 => GO.pat [(5, .int x5)] ⟨h5, trivial⟩ (hKO61 x5 σ))), List.forall_mem_cons.mpr ⟨fun vs st σ => go_kS0 (go_kA (fun h0 => go_kI (fun x1 h1 => go_kI (fun x2 h2 => go_kA (fun h4 => go_kI (fun x5 h5 => go_kI (fun x6 h6 => GO.pat [(0, .ref 41), (1, .int x1), (2, .int x2), (4, .ref 60), (5, .int x5), (6, .int x6)] ⟨h0, h1, h2, h4, h5, h6, trivial⟩ (g_X10_ripples_L6 N 60 13 (Or.inl ⟨rfl, rfl⟩) KO61 hKO61 n x1 x2 x5 x6 σ)))))))), (fun _ z => absurd z List.not_mem_nil)⟩⟩) 39 ?_ ?_ <;> rfl)
    · exact (by refine GO.to (md_X10_ripples N) (kl := [(61, fun vs st σ => kS0 st (kI 5 vs (fun x5 => KO61 x5 σ))), (6, fun vs st σ => kS0 st (kA 0 41 vs (kI 1 vs (fun x1 => kI 2 vs (fun x2 => kA 4 61 vs (kI 5 vs (fun x5 => kI 6 vs (fun x6 => f_X10_ripples_L6 N 61 12 KO61 n x1 x2 x5 x6 σ))))))))]) (List.forall_mem_cons.mpr ⟨fun vs st σ => go_kS0 (go_kI (fun x5 h5 => GO.pat [(5, .int x5)] ⟨h5, trivial⟩ (hKO61 x5 σ))), List.forall_mem_cons.mpr ⟨fun vs st σ => go_kS0 (go_kA (fun h0 => go_kI (fun x1 h1 => go_kI (fun x2 h2 => go_kA (fun h4 => go_kI (fun x5 h5 => go_kI (fun x6 h6 => GO.pat [(0, .ref 41), (1, .int x1), (2, .int x2), (4, .ref 61), (5, .int x5), (6, .int x6)] ⟨h0, h1, h2, h4, h5, h6, trivial⟩ (g_X10_ripples_L6 N 61 12 (Or.inr (Or.inl ⟨rfl, rfl⟩)) KO61 hKO61 n x1 x2 x5 x6 σ)))))))), (fun _ z => absurd z List.not_mem_nil)⟩⟩) 39 ?_ ?_ <;> rfl)
    · exact (by refine GO.to (md_X10_ripples N) (kl := [(61, fun vs st σ => kS0 st (kI 5 vs (fun x5 => KO61 x5 σ))), (6, fun vs st σ => kS0 st (kA 0 41 vs (kI 1 vs (fun x1 => kI 2 vs (fun x2 => kA 4 62 vs (kI 5 vs (fun x5 => kI 6 vs (fun x6 => f_X10_ripples_L6 N 62 12 KO61 n x1 x2 x5 x6 σ))))))))]) (List.forall_mem_cons.mpr ⟨fun vs st σ => go_kS0 (go_kI (fun x5 h5 => GO.pat [(5, .int x5)] ⟨h5, trivial⟩ (hKO61 x5 σ))), List.forall_mem_cons.mpr ⟨fun vs st σ => go_kS0 (go_kA (fun h0 => go_kI (fun x1 h1 => go_kI (fun x2 h2 => go_kA (fun h4 => go_kI (fun x5 h5 => go_kI (fun x6 h6 => GO.pat [(0, .ref 41), (1, .int x1), (2, .int x2), (4, .ref 62), (5, .int x5), (6, .int x6)] ⟨h0, h1, h2, h4, h5, h6, trivial⟩ (g_X10_ripples_L6 N 62 12 (Or.inr (Or.inr ⟨rfl, rfl⟩)) KO61 hKO61 n x1 x2 x5 x6 σ)))))))), (fun _ z => absurd z List.not_mem_nil)⟩⟩) 39 ?_ ?_ <;> rfl)
set_option maxRecDepth 200000 in
theorem g_X10_ripples_J61 (N : Nat) (K4 K4L : Nat) (hK4 : (K4 = 60 ∧ K4L = 13) ∨ (K4 = 61 ∧ K4L = 12) ∨ (K4 = 62 ∧ K4L = 12)) (x5 : Int32) (σ : Wd) : GO cX10_ripples RX10 7 5 sc0 rI nJ0 nV0 (f_X10_ripples_J61 N K4 K4L x5 σ) 61 (mkp 0 7 [(5, .int x5)]) [] σ := by
  rcases hK4 with ⟨rfl, rfl⟩ | ⟨rfl, rfl⟩ | ⟨rfl, rfl⟩
  · exact (by refine GO.to (md_X10_ripples N) (kl := []) ((fun _ z => absurd z List.not_mem_nil)) 39 ?_ ?_ <;> rfl)
  · exact (by refine GO.to (md_X10_ripples N) (kl := []) ((fun _ z => absurd z List.not_mem_nil)) 39 ?_ ?_ <;> rfl)
  · exact (by refine GO.to (md_X10_ripples N) (kl := []) ((fun _ z => absurd z List.not_mem_nil)) 39 ?_ ?_ <;> rfl)
set_option maxRecDepth 200000 in
theorem C_X10_ripples (N : Nat) : CTI 5 yX10_ripples cX10_ripples 7 (some .int) (a_X10_ripples N) := by
  refine CTI.of (own := RX10) (by decide) rfl (fun as σ r h => ?_)
  unfold a_X10_ripples at h
  rcases kSE_s h with ⟨r0, rfl, h0⟩ | hn
  ·
    obtain ⟨b1, r1, rfl, h1⟩ := kSI_s h0
    obtain ⟨b2, r2, rfl, h2⟩ := kSI_s h1
    obtain ⟨b3, r3, rfl, h3⟩ := kSI_s h2
    rcases kSE_s h3 with ⟨r4, rfl, h4⟩ | h3n
    ·
      obtain ⟨rfl, h9⟩ := kS0_s h4
      exact ⟨Nat.le_of_ble_eq_true rfl, by refine GO.to (md_X10_ripples N) (kl := [(6, fun vs st σ => kS0 st (kA 0 41 vs (kI 1 vs (fun x1 => kI 2 vs (fun x2 => kA 4 60 vs (kI 5 vs (fun x5 => kI 6 vs (fun x6 => f_X10_ripples_L6 N 60 13 (f_X10_ripples_J61 N 60 13) N x1 x2 x5 x6 σ))))))))]) (List.forall_mem_cons.mpr ⟨fun vs st σ => go_kS0 (go_kA (fun h0 => go_kI (fun x1 h1 => go_kI (fun x2 h2 => go_kA (fun h4 => go_kI (fun x5 h5 => go_kI (fun x6 h6 => GO.pat [(0, .ref 41), (1, .int x1), (2, .int x2), (4, .ref 60), (5, .int x5), (6, .int x6)] ⟨h0, h1, h2, h4, h5, h6, trivial⟩ (g_X10_ripples_L6 N 60 13 (Or.inl ⟨rfl, rfl⟩) (f_X10_ripples_J61 N 60 13) (g_X10_ripples_J61 N 60 13 (Or.inl ⟨rfl, rfl⟩)) N x1 x2 x5 x6 σ)))))))), (fun _ z => absurd z List.not_mem_nil)⟩) 39 ?_ ?_ <;> rfl⟩
    rcases kSE_s h3n with ⟨r4, rfl, h4⟩ | h3nn
    ·
      obtain ⟨rfl, h9⟩ := kS0_s h4
      exact ⟨Nat.le_of_ble_eq_true rfl, by refine GO.to (md_X10_ripples N) (kl := [(6, fun vs st σ => kS0 st (kA 0 41 vs (kI 1 vs (fun x1 => kI 2 vs (fun x2 => kA 4 61 vs (kI 5 vs (fun x5 => kI 6 vs (fun x6 => f_X10_ripples_L6 N 61 12 (f_X10_ripples_J61 N 61 12) N x1 x2 x5 x6 σ))))))))]) (List.forall_mem_cons.mpr ⟨fun vs st σ => go_kS0 (go_kA (fun h0 => go_kI (fun x1 h1 => go_kI (fun x2 h2 => go_kA (fun h4 => go_kI (fun x5 h5 => go_kI (fun x6 h6 => GO.pat [(0, .ref 41), (1, .int x1), (2, .int x2), (4, .ref 61), (5, .int x5), (6, .int x6)] ⟨h0, h1, h2, h4, h5, h6, trivial⟩ (g_X10_ripples_L6 N 61 12 (Or.inr (Or.inl ⟨rfl, rfl⟩)) (f_X10_ripples_J61 N 61 12) (g_X10_ripples_J61 N 61 12 (Or.inr (Or.inl ⟨rfl, rfl⟩))) N x1 x2 x5 x6 σ)))))))), (fun _ z => absurd z List.not_mem_nil)⟩) 39 ?_ ?_ <;> rfl⟩
    rcases kSE_s h3nn with ⟨r4, rfl, h4⟩ | h3nnn
    ·
      obtain ⟨rfl, h9⟩ := kS0_s h4
      exact ⟨Nat.le_of_ble_eq_true rfl, by refine GO.to (md_X10_ripples N) (kl := [(6, fun vs st σ => kS0 st (kA 0 41 vs (kI 1 vs (fun x1 => kI 2 vs (fun x2 => kA 4 62 vs (kI 5 vs (fun x5 => kI 6 vs (fun x6 => f_X10_ripples_L6 N 62 12 (f_X10_ripples_J61 N 62 12) N x1 x2 x5 x6 σ))))))))]) (List.forall_mem_cons.mpr ⟨fun vs st σ => go_kS0 (go_kA (fun h0 => go_kI (fun x1 h1 => go_kI (fun x2 h2 => go_kA (fun h4 => go_kI (fun x5 h5 => go_kI (fun x6 h6 => GO.pat [(0, .ref 41), (1, .int x1), (2, .int x2), (4, .ref 62), (5, .int x5), (6, .int x6)] ⟨h0, h1, h2, h4, h5, h6, trivial⟩ (g_X10_ripples_L6 N 62 12 (Or.inr (Or.inr ⟨rfl, rfl⟩)) (f_X10_ripples_J61 N 62 12) (g_X10_ripples_J61 N 62 12 (Or.inr (Or.inr ⟨rfl, rfl⟩))) N x1 x2 x5 x6 σ)))))))), (fun _ z => absurd z List.not_mem_nil)⟩) 39 ?_ ?_ <;> rfl⟩
    cases h3nnn
  cases hn
def T_X10_spanP : List (Nat × Ent) := [(0, .iload_n 1, 1, []), (1, .iload_n 2, 2, []), (2, .iadd, 3, []), (3, .iconst 2, 4, []), (4, .idiv, 5, []), (5, .istore_n 3, 6, []), (6, .iload_n 1, 7, []), (7, .iload_n 2, 8, []), (8, .if_icmp .ne 11, 11, [19]), (11, .aload_n 0, 12, []), (12, .iload_n 1, 13, []), (13, .invokevirtual 208, 16, []), (16, .goto 21, 19, [37]), (19, .aload_n 0, 20, []), (20, .aload_n 0, 21, []), (21, .iload_n 1, 22, []), (22, .iload_n 3, 23, []), (23, .invokevirtual 221, 26, []), (26, .aload_n 0, 27, []), (27, .iload_n 3, 28, []), (28, .iconst 1, 29, []), (29, .iadd, 30, []), (30, .iload_n 2, 31, []), (31, .invokevirtual 221, 34, []), (34, .invokevirtual 205, 37, []), (37, .ireturn, 38, [])]
set_option maxRecDepth 200000 in
theorem tc_X10_spanP : T_X10_spanP.all (chk cX10_spanP) = true := by decide +kernel
def f_X10_spanP (N : Nat) : Nat → Int32 → Int32 → Wd → Option (Int32 × Wd)
  | 0, _, _, _ => none
  | d + 1, a1, a2, σ => if a1 = a2 then ((f_X10_p N a1 σ).bind fun p1 => some (p1.1, p1.2)) else (((f_X10_spanP N d) a1 ((a1 + a2) / 2) σ).bind fun p2 => ((f_X10_spanP N d) (((a1 + a2) / 2) + 1) a2 p2.2).bind fun p3 => (f_X10_and N p2.1 p3.1 p3.2).bind fun p4 => some (p4.1, p4.2))
def aR_X10_spanP (REC : Int32 → Int32 → Wd → Option (Int32 × Wd)) : List Value → Wd → Option (Int32 × Wd) := fun as σ => kSE 41 as (fun r0 => kSI r0 (fun b1 r1 => kSI r1 (fun b2 r2 => kS0 r2 (REC b1 b2 σ)))) (none)
def a_X10_spanP (N d : Nat) : List Value → Wd → Option (Int32 × Wd) := aR_X10_spanP (f_X10_spanP N d)
set_option maxRecDepth 200000 in
theorem k_X10_221 : calchk RX10 221 3 10 yX10_spanP cX10_spanP 4 (some .int) = true := by decide +kernel
def ct_X10_spanP (N : Nat) (REC : Int32 → Int32 → Wd → Option (Int32 × Wd)) : List (Nat × Cal) := [(208, 2, 10, .inl (a_X10_p N)), (221, 3, 10, .inl (aR_X10_spanP REC)), (205, 3, 10, .inl (a_X10_and N))]
set_option maxRecDepth 200000 in
theorem md_X10_spanP (N : Nat) (REC : Int32 → Int32 → Wd → Option (Int32 × Wd)) (lv0 : Nat) (hlv : 4 ≤ lv0) (hREC : CTI lv0 yX10_spanP cX10_spanP 4 (some .int) (aR_X10_spanP REC)) : MDOK T_X10_spanP ft_X10 lt_X10 (ct_X10_spanP N REC) cX10_spanP RX10 (lv0 + 1) := ⟨tc_X10_spanP, fc_X10, lc_X10, List.forall_mem_cons.mpr ⟨Or.inl ⟨yX10_p, cX10_p, 2, (some .int), 4, k_X10_208, by omega, C_X10_p N⟩, List.forall_mem_cons.mpr ⟨Or.inl ⟨yX10_spanP, cX10_spanP, 4, (some .int), lv0, k_X10_221, Nat.le_refl _, hREC⟩, List.forall_mem_cons.mpr ⟨Or.inl ⟨yX10_and, cX10_and, 3, (some .int), 2, k_X10_205, by omega, C_X10_and N⟩, (fun _ z => absurd z List.not_mem_nil)⟩⟩⟩⟩
set_option maxRecDepth 200000 in
theorem C_X10_spanP (N : Nat) : ∀ d : Nat, CTI (5 + d) yX10_spanP cX10_spanP 4 (some .int) (a_X10_spanP N d)
  | 0 => by
    refine CTI.of (own := RX10) (by decide) rfl (fun as σ r h => ?_)
    unfold a_X10_spanP aR_X10_spanP at h
    rcases kSE_s h with ⟨r0, rfl, h0⟩ | hn
    ·
      obtain ⟨b1, r1, rfl, h1⟩ := kSI_s h0
      obtain ⟨b2, r2, rfl, h2⟩ := kSI_s h1
      obtain ⟨rfl, h9⟩ := kS0_s h2
      exact ⟨Nat.le_of_ble_eq_true rfl, GO.none⟩
    cases hn
  | d + 1 => by
    refine CTI.of (own := RX10) (by decide) rfl (fun as σ r h => ?_)
    unfold a_X10_spanP aR_X10_spanP at h
    rcases kSE_s h with ⟨r0, rfl, h0⟩ | hn
    ·
      obtain ⟨b1, r1, rfl, h1⟩ := kSI_s h0
      obtain ⟨b2, r2, rfl, h2⟩ := kSI_s h1
      obtain ⟨rfl, h9⟩ := kS0_s h2
      exact ⟨Nat.le_of_ble_eq_true rfl, by refine GO.to (md_X10_spanP N (f_X10_spanP N d) (5 + d) (by omega) (C_X10_spanP N d)) (kl := []) ((fun _ z => absurd z List.not_mem_nil)) 31 ?_ ?_ <;> rfl⟩
    cases hn
def T_X10_skips : List (Nat × Ent) := [(0, .aload_n 0, 1, []), (1, .iload_n 1, 2, []), (2, .iload_n 2, 3, []), (3, .iload_n 3, 4, []), (4, .aload_n 0, 5, []), (5, .getfield 66, 8, []), (8, .invokevirtual 217, 11, []), (11, .istore 4, 13, []), (13, .aload_n 0, 14, []), (14, .iload_n 1, 15, []), (15, .invokevirtual 208, 18, []), (18, .istore 5, 20, []), (20, .iload_n 1, 21, []), (21, .iconst 1, 22, []), (22, .iadd, 23, []), (23, .istore 6, 25, []), (25, .iload 6, 27, []), (27, .iload_n 1, 28, []), (28, .iload_n 2, 29, []), (29, .iadd, 30, []), (30, .if_icmp .ge 23, 33, [53]), (33, .aload_n 0, 34, []), (34, .iload 5, 36, []), (36, .aload_n 0, 37, []), (37, .iload 6, 39, []), (39, .invokevirtual 208, 42, []), (42, .invokevirtual 205, 45, []), (45, .istore 5, 47, []), (47, .iinc 6 1, 50, []), (50, .goto (-25), 53, [25]), (53, .aload_n 0, 54, []), (54, .iload 4, 56, []), (56, .aload_n 0, 57, []), (57, .iload 5, 59, []), (59, .iload_n 3, 60, []), (60, .invokevirtual 205, 63, []), (63, .invokevirtual 214, 66, []), (66, .ireturn, 67, [])]
set_option maxRecDepth 200000 in
theorem tc_X10_skips : T_X10_skips.all (chk cX10_skips) = true := by decide +kernel
def f_X10_skips_L25 (N : Nat) (KO53 : Int32 → Int32 → Int32 → Wd → Option (Int32 × Wd)) : Nat → Int32 → Int32 → Int32 → Int32 → Int32 → Int32 → Wd → Option (Int32 × Wd)
  | 0, _, _, _, _, _, _, _ => none
  | n + 1, x1, x2, x3, x4, x5, x6, σ => if (x1 + x2) ≤ x6 then (KO53 x3 x4 x5 σ) else ((f_X10_p N x6 σ).bind fun p3 => (f_X10_and N x5 p3.1 p3.2).bind fun p4 => f_X10_skips_L25 N KO53 n x1 x2 x3 x4 p4.1 (x6 + 1) p4.2)
def f_X10_skips_J53 (N : Nat) (x3 : Int32) (x4 : Int32) (x5 : Int32) (σ : Wd) : Option (Int32 × Wd) :=
  (f_X10_and N x5 x3 σ).bind fun p5 => (f_X10_or N x4 p5.1 p5.2).bind fun p6 => some (p6.1, p6.2)
def f_X10_skips (N : Nat) (a1 : Int32) (a2 : Int32) (a3 : Int32) (σ : Wd) : Option (Int32 × Wd) :=
  (f_X10_ripples N 60 13 a1 a2 a3 σ).bind fun p1 => (f_X10_p N a1 p1.2).bind fun p2 => f_X10_skips_L25 N (f_X10_skips_J53 N) N a1 a2 a3 p1.1 p2.1 (a1 + 1) p2.2
def a_X10_skips (N : Nat) : List Value → Wd → Option (Int32 × Wd) := fun as σ => kSE 41 as (fun r0 => kSI r0 (fun b1 r1 => kSI r1 (fun b2 r2 => kSI r2 (fun b3 r3 => kS0 r3 (f_X10_skips N b1 b2 b3 σ))))) (none)
set_option maxRecDepth 200000 in
theorem k_X10_217 : calchk RX10 217 5 10 yX10_ripples cX10_ripples 7 (some .int) = true := by decide +kernel
def ct_X10_skips (N : Nat) : List (Nat × Cal) := [(217, 5, 10, .inl (a_X10_ripples N)), (208, 2, 10, .inl (a_X10_p N)), (205, 3, 10, .inl (a_X10_and N)), (214, 3, 10, .inl (a_X10_or N))]
set_option maxRecDepth 200000 in
theorem md_X10_skips (N : Nat) : MDOK T_X10_skips ft_X10 lt_X10 (ct_X10_skips N) cX10_skips RX10 6 := ⟨tc_X10_skips, fc_X10, lc_X10, List.forall_mem_cons.mpr ⟨Or.inl ⟨yX10_ripples, cX10_ripples, 7, (some .int), 5, k_X10_217, Nat.le_of_ble_eq_true rfl, C_X10_ripples N⟩, List.forall_mem_cons.mpr ⟨Or.inl ⟨yX10_p, cX10_p, 2, (some .int), 4, k_X10_208, Nat.le_of_ble_eq_true rfl, C_X10_p N⟩, List.forall_mem_cons.mpr ⟨Or.inl ⟨yX10_and, cX10_and, 3, (some .int), 2, k_X10_205, Nat.le_of_ble_eq_true rfl, C_X10_and N⟩, List.forall_mem_cons.mpr ⟨Or.inl ⟨yX10_or, cX10_or, 3, (some .int), 2, k_X10_214, Nat.le_of_ble_eq_true rfl, C_X10_or N⟩, (fun _ z => absurd z List.not_mem_nil)⟩⟩⟩⟩⟩
set_option maxRecDepth 200000 in
theorem g_X10_skips_L25 (N : Nat) (KO53 : Int32 → Int32 → Int32 → Wd → Option (Int32 × Wd)) (hKO53 : ∀ (x3 : Int32) (x4 : Int32) (x5 : Int32) (σ : Wd), GO cX10_skips RX10 7 6 sc0 rI nJ0 nV0 (KO53 x3 x4 x5 σ) 53 (mkp 0 7 [(0, .ref 41), (3, .int x3), (4, .int x4), (5, .int x5)]) [] σ) : ∀ (n : Nat), ∀ (x1 : Int32) (x2 : Int32) (x3 : Int32) (x4 : Int32) (x5 : Int32) (x6 : Int32) (σ : Wd), GO cX10_skips RX10 7 6 sc0 rI nJ0 nV0 (f_X10_skips_L25 N KO53 n x1 x2 x3 x4 x5 x6 σ) 25 (mkp 0 7 [(0, .ref 41), (1, .int x1), (2, .int x2), (3, .int x3), (4, .int x4), (5, .int x5), (6, .int x6)]) [] σ
  | 0, x1, x2, x3, x4, x5, x6, σ => GO.none
  | n + 1, x1, x2, x3, x4, x5, x6, σ => by
    exact (by refine GO.to (md_X10_skips N) (kl := [(53, fun vs st σ => kS0 st (kA 0 41 vs (kI 3 vs (fun x3 => kI 4 vs (fun x4 => kI 5 vs (fun x5 => KO53 x3 x4 x5 σ)))))), (25, fun vs st σ => kS0 st (kA 0 41 vs (kI 1 vs (fun x1 => kI 2 vs (fun x2 => kI 3 vs (fun x3 => kI 4 vs (fun x4 => kI 5 vs (fun x5 => kI 6 vs (fun x6 => f_X10_skips_L25 N KO53 n x1 x2 x3 x4 x5 x6 σ)))))))))]) (List.forall_mem_cons.mpr ⟨fun vs st σ => go_kS0 (go_kA (fun h0 => go_kI (fun x3 h3 => go_kI (fun x4 h4 => go_kI (fun x5 h5 => GO.pat [(0, .ref 41), (3, .int x3), (4, .int x4), (5, .int x5)] ⟨h0, h3, h4, h5, trivial⟩ (hKO53 x3 x4 x5 σ)))))), List.forall_mem_cons.mpr ⟨fun vs st σ => go_kS0 (go_kA (fun h0 => go_kI (fun x1 h1 => go_kI (fun x2 h2 => go_kI (fun x3 h3 => go_kI (fun x4 h4 => go_kI (fun x5 h5 => go_kI (fun x6 h6 => GO.pat [(0, .ref 41), (1, .int x1), (2, .int x2), (3, .int x3), (4, .int x4), (5, .int x5), (6, .int x6)] ⟨h0, h1, h2, h3, h4, h5, h6, trivial⟩ (g_X10_skips_L25 N KO53 hKO53 n x1 x2 x3 x4 x5 x6 σ))))))))), (fun _ z => absurd z List.not_mem_nil)⟩⟩) 43 ?_ ?_ <;> rfl)
set_option maxRecDepth 200000 in
theorem g_X10_skips_J53 (N : Nat) (x3 : Int32) (x4 : Int32) (x5 : Int32) (σ : Wd) : GO cX10_skips RX10 7 6 sc0 rI nJ0 nV0 (f_X10_skips_J53 N x3 x4 x5 σ) 53 (mkp 0 7 [(0, .ref 41), (3, .int x3), (4, .int x4), (5, .int x5)]) [] σ := by
  exact (by refine GO.to (md_X10_skips N) (kl := []) ((fun _ z => absurd z List.not_mem_nil)) 43 ?_ ?_ <;> rfl)
set_option maxRecDepth 200000 in
theorem C_X10_skips (N : Nat) : CTI 6 yX10_skips cX10_skips 7 (some .int) (a_X10_skips N) := by
  refine CTI.of (own := RX10) (by decide) rfl (fun as σ r h => ?_)
  unfold a_X10_skips at h
  rcases kSE_s h with ⟨r0, rfl, h0⟩ | hn
  ·
    obtain ⟨b1, r1, rfl, h1⟩ := kSI_s h0
    obtain ⟨b2, r2, rfl, h2⟩ := kSI_s h1
    obtain ⟨b3, r3, rfl, h3⟩ := kSI_s h2
    obtain ⟨rfl, h9⟩ := kS0_s h3
    exact ⟨Nat.le_of_ble_eq_true rfl, by refine GO.to (md_X10_skips N) (kl := [(25, fun vs st σ => kS0 st (kA 0 41 vs (kI 1 vs (fun x1 => kI 2 vs (fun x2 => kI 3 vs (fun x3 => kI 4 vs (fun x4 => kI 5 vs (fun x5 => kI 6 vs (fun x6 => f_X10_skips_L25 N (f_X10_skips_J53 N) N x1 x2 x3 x4 x5 x6 σ)))))))))]) (List.forall_mem_cons.mpr ⟨fun vs st σ => go_kS0 (go_kA (fun h0 => go_kI (fun x1 h1 => go_kI (fun x2 h2 => go_kI (fun x3 h3 => go_kI (fun x4 h4 => go_kI (fun x5 h5 => go_kI (fun x6 h6 => GO.pat [(0, .ref 41), (1, .int x1), (2, .int x2), (3, .int x3), (4, .int x4), (5, .int x5), (6, .int x6)] ⟨h0, h1, h2, h3, h4, h5, h6, trivial⟩ (g_X10_skips_L25 N (f_X10_skips_J53 N) (g_X10_skips_J53 N) N x1 x2 x3 x4 x5 x6 σ))))))))), (fun _ z => absurd z List.not_mem_nil)⟩) 43 ?_ ?_ <;> rfl⟩
  cases hn
def T_X10_selects : List (Nat × Ent) := [(0, .aload_n 0, 1, []), (1, .iload_n 1, 2, []), (2, .iload_n 2, 3, []), (3, .bipush 25, 5, []), (5, .aload_n 0, 6, []), (6, .getfield 69, 9, []), (9, .invokevirtual 217, 12, []), (12, .istore 4, 14, []), (14, .aload_n 0, 15, []), (15, .iload_n 1, 16, []), (16, .iload_n 2, 17, []), (17, .bipush 26, 19, []), (19, .aload_n 0, 20, []), (20, .getfield 72, 23, []), (23, .invokevirtual 217, 26, []), (26, .istore 5, 28, []), (28, .iload_n 1, 29, []), (29, .istore 6, 31, []), (31, .iload 6, 33, []), (33, .iload_n 1, 34, []), (34, .iload_n 2, 35, []), (35, .iadd, 36, []), (36, .if_icmp .ge 48, 39, [84]), (39, .aload_n 0, 40, []), (40, .getfield 66, 43, []), (43, .iload 6, 45, []), (45, .aload_n 0, 46, []), (46, .aload_n 0, 47, []), (47, .aload_n 0, 48, []), (48, .getfield 72, 51, []), (51, .iload 6, 53, []), (53, .iaload, 54, []), (54, .iload_n 3, 55, []), (55, .invokevirtual 205, 58, []), (58, .aload_n 0, 59, []), (59, .aload_n 0, 60, []), (60, .getfield 69, 63, []), (63, .iload 6, 65, []), (65, .iaload, 66, []), (66, .aload_n 0, 67, []), (67, .iload_n 3, 68, []), (68, .invokevirtual 199, 71, []), (71, .invokevirtual 205, 74, []), (74, .invokevirtual 214, 77, []), (77, .iastore, 78, []), (78, .iinc 6 1, 81, []), (81, .goto (-50), 84, [31]), (84, .aload_n 0, 85, []), (85, .iload 4, 87, []), (87, .aload_n 0, 88, []), (88, .iload 5, 90, []), (90, .iload_n 3, 91, []), (91, .invokevirtual 205, 94, []), (94, .invokevirtual 214, 97, []), (97, .ireturn, 98, [])]
set_option maxRecDepth 200000 in
theorem tc_X10_selects : T_X10_selects.all (chk cX10_selects) = true := by decide +kernel
def f_X10_selects_L31 (N : Nat) (KO84 : Int32 → Int32 → Int32 → Wd → Option (Int32 × Wd)) : Nat → Int32 → Int32 → Int32 → Int32 → Int32 → Int32 → Wd → Option (Int32 × Wd)
  | 0, _, _, _, _, _, _, _ => none
  | n + 1, x1, x2, x3, x4, x5, x6, σ => if (x1 + x2) ≤ x6 then (KO84 x3 x4 x5 σ) else ((xld σ 62 12 x6).bind fun v3 => (f_X10_and N v3 x3 σ).bind fun p4 => (xld p4.2 61 12 x6).bind fun v5 => (f_X10_not N x3 p4.2).bind fun p6 => (f_X10_and N v5 p6.1 p6.2).bind fun p7 => (f_X10_or N p4.1 p7.1 p7.2).bind fun p8 => (xst p8.2 60 13 x6 p8.1).bind fun σ9 => f_X10_selects_L31 N KO84 n x1 x2 x3 x4 x5 (x6 + 1) σ9)
def f_X10_selects_J84 (N : Nat) (x3 : Int32) (x4 : Int32) (x5 : Int32) (σ : Wd) : Option (Int32 × Wd) :=
  (f_X10_and N x5 x3 σ).bind fun p10 => (f_X10_or N x4 p10.1 p10.2).bind fun p11 => some (p11.1, p11.2)
def f_X10_selects (N : Nat) (a1 : Int32) (a2 : Int32) (a3 : Int32) (σ : Wd) : Option (Int32 × Wd) :=
  (f_X10_ripples N 61 12 a1 a2 25 σ).bind fun p1 => (f_X10_ripples N 62 12 a1 a2 26 p1.2).bind fun p2 => f_X10_selects_L31 N (f_X10_selects_J84 N) N a1 a2 a3 p1.1 p2.1 a1 p2.2
def a_X10_selects (N : Nat) : List Value → Wd → Option (Int32 × Wd) := fun as σ => kSE 41 as (fun r0 => kSI r0 (fun b1 r1 => kSI r1 (fun b2 r2 => kSI r2 (fun b3 r3 => kS0 r3 (f_X10_selects N b1 b2 b3 σ))))) (none)
def ct_X10_selects (N : Nat) : List (Nat × Cal) := [(217, 5, 10, .inl (a_X10_ripples N)), (205, 3, 10, .inl (a_X10_and N)), (199, 2, 10, .inl (a_X10_not N)), (214, 3, 10, .inl (a_X10_or N))]
set_option maxRecDepth 200000 in
theorem md_X10_selects (N : Nat) : MDOK T_X10_selects ft_X10 lt_X10 (ct_X10_selects N) cX10_selects RX10 6 := ⟨tc_X10_selects, fc_X10, lc_X10, List.forall_mem_cons.mpr ⟨Or.inl ⟨yX10_ripples, cX10_ripples, 7, (some .int), 5, k_X10_217, Nat.le_of_ble_eq_true rfl, C_X10_ripples N⟩, List.forall_mem_cons.mpr ⟨Or.inl ⟨yX10_and, cX10_and, 3, (some .int), 2, k_X10_205, Nat.le_of_ble_eq_true rfl, C_X10_and N⟩, List.forall_mem_cons.mpr ⟨Or.inl ⟨yX10_not, cX10_not, 2, (some .int), 2, k_X10_199, Nat.le_of_ble_eq_true rfl, C_X10_not N⟩, List.forall_mem_cons.mpr ⟨Or.inl ⟨yX10_or, cX10_or, 3, (some .int), 2, k_X10_214, Nat.le_of_ble_eq_true rfl, C_X10_or N⟩, (fun _ z => absurd z List.not_mem_nil)⟩⟩⟩⟩⟩
set_option maxRecDepth 200000 in
theorem g_X10_selects_L31 (N : Nat) (KO84 : Int32 → Int32 → Int32 → Wd → Option (Int32 × Wd)) (hKO84 : ∀ (x3 : Int32) (x4 : Int32) (x5 : Int32) (σ : Wd), GO cX10_selects RX10 7 6 sc0 rI nJ0 nV0 (KO84 x3 x4 x5 σ) 84 (mkp 0 7 [(0, .ref 41), (3, .int x3), (4, .int x4), (5, .int x5)]) [] σ) : ∀ (n : Nat), ∀ (x1 : Int32) (x2 : Int32) (x3 : Int32) (x4 : Int32) (x5 : Int32) (x6 : Int32) (σ : Wd), GO cX10_selects RX10 7 6 sc0 rI nJ0 nV0 (f_X10_selects_L31 N KO84 n x1 x2 x3 x4 x5 x6 σ) 31 (mkp 0 7 [(0, .ref 41), (1, .int x1), (2, .int x2), (3, .int x3), (4, .int x4), (5, .int x5), (6, .int x6)]) [] σ
  | 0, x1, x2, x3, x4, x5, x6, σ => GO.none
  | n + 1, x1, x2, x3, x4, x5, x6, σ => by
    exact (by refine GO.to (md_X10_selects N) (kl := [(84, fun vs st σ => kS0 st (kA 0 41 vs (kI 3 vs (fun x3 => kI 4 vs (fun x4 => kI 5 vs (fun x5 => KO84 x3 x4 x5 σ)))))), (31, fun vs st σ => kS0 st (kA 0 41 vs (kI 1 vs (fun x1 => kI 2 vs (fun x2 => kI 3 vs (fun x3 => kI 4 vs (fun x4 => kI 5 vs (fun x5 => kI 6 vs (fun x6 => f_X10_selects_L31 N KO84 n x1 x2 x3 x4 x5 x6 σ)))))))))]) (List.forall_mem_cons.mpr ⟨fun vs st σ => go_kS0 (go_kA (fun h0 => go_kI (fun x3 h3 => go_kI (fun x4 h4 => go_kI (fun x5 h5 => GO.pat [(0, .ref 41), (3, .int x3), (4, .int x4), (5, .int x5)] ⟨h0, h3, h4, h5, trivial⟩ (hKO84 x3 x4 x5 σ)))))), List.forall_mem_cons.mpr ⟨fun vs st σ => go_kS0 (go_kA (fun h0 => go_kI (fun x1 h1 => go_kI (fun x2 h2 => go_kI (fun x3 h3 => go_kI (fun x4 h4 => go_kI (fun x5 h5 => go_kI (fun x6 h6 => GO.pat [(0, .ref 41), (1, .int x1), (2, .int x2), (3, .int x3), (4, .int x4), (5, .int x5), (6, .int x6)] ⟨h0, h1, h2, h3, h4, h5, h6, trivial⟩ (g_X10_selects_L31 N KO84 hKO84 n x1 x2 x3 x4 x5 x6 σ))))))))), (fun _ z => absurd z List.not_mem_nil)⟩⟩) 60 ?_ ?_ <;> rfl)
set_option maxRecDepth 200000 in
theorem g_X10_selects_J84 (N : Nat) (x3 : Int32) (x4 : Int32) (x5 : Int32) (σ : Wd) : GO cX10_selects RX10 7 6 sc0 rI nJ0 nV0 (f_X10_selects_J84 N x3 x4 x5 σ) 84 (mkp 0 7 [(0, .ref 41), (3, .int x3), (4, .int x4), (5, .int x5)]) [] σ := by
  exact (by refine GO.to (md_X10_selects N) (kl := []) ((fun _ z => absurd z List.not_mem_nil)) 60 ?_ ?_ <;> rfl)
set_option maxRecDepth 200000 in
theorem C_X10_selects (N : Nat) : CTI 6 yX10_selects cX10_selects 7 (some .int) (a_X10_selects N) := by
  refine CTI.of (own := RX10) (by decide) rfl (fun as σ r h => ?_)
  unfold a_X10_selects at h
  rcases kSE_s h with ⟨r0, rfl, h0⟩ | hn
  ·
    obtain ⟨b1, r1, rfl, h1⟩ := kSI_s h0
    obtain ⟨b2, r2, rfl, h2⟩ := kSI_s h1
    obtain ⟨b3, r3, rfl, h3⟩ := kSI_s h2
    obtain ⟨rfl, h9⟩ := kS0_s h3
    exact ⟨Nat.le_of_ble_eq_true rfl, by refine GO.to (md_X10_selects N) (kl := [(31, fun vs st σ => kS0 st (kA 0 41 vs (kI 1 vs (fun x1 => kI 2 vs (fun x2 => kI 3 vs (fun x3 => kI 4 vs (fun x4 => kI 5 vs (fun x5 => kI 6 vs (fun x6 => f_X10_selects_L31 N (f_X10_selects_J84 N) N x1 x2 x3 x4 x5 x6 σ)))))))))]) (List.forall_mem_cons.mpr ⟨fun vs st σ => go_kS0 (go_kA (fun h0 => go_kI (fun x1 h1 => go_kI (fun x2 h2 => go_kI (fun x3 h3 => go_kI (fun x4 h4 => go_kI (fun x5 h5 => go_kI (fun x6 h6 => GO.pat [(0, .ref 41), (1, .int x1), (2, .int x2), (3, .int x3), (4, .int x4), (5, .int x5), (6, .int x6)] ⟨h0, h1, h2, h3, h4, h5, h6, trivial⟩ (g_X10_selects_L31 N (f_X10_selects_J84 N) (g_X10_selects_J84 N) N x1 x2 x3 x4 x5 x6 σ))))))))), (fun _ z => absurd z List.not_mem_nil)⟩) 60 ?_ ?_ <;> rfl⟩
  cases hn
def T_X10_spanG : List (Nat × Ent) := [(0, .iload_n 1, 1, []), (1, .iload_n 2, 2, []), (2, .iadd, 3, []), (3, .iconst 2, 4, []), (4, .idiv, 5, []), (5, .istore_n 3, 6, []), (6, .iload_n 1, 7, []), (7, .iload_n 2, 8, []), (8, .if_icmp .ne 11, 11, [19]), (11, .aload_n 0, 12, []), (12, .iload_n 1, 13, []), (13, .invokevirtual 211, 16, []), (16, .goto 33, 19, [49]), (19, .aload_n 0, 20, []), (20, .aload_n 0, 21, []), (21, .iload_n 3, 22, []), (22, .iconst 1, 23, []), (23, .iadd, 24, []), (24, .iload_n 2, 25, []), (25, .invokevirtual 224, 28, []), (28, .aload_n 0, 29, []), (29, .aload_n 0, 30, []), (30, .iload_n 3, 31, []), (31, .iconst 1, 32, []), (32, .iadd, 33, []), (33, .iload_n 2, 34, []), (34, .invokevirtual 221, 37, []), (37, .aload_n 0, 38, []), (38, .iload_n 1, 39, []), (39, .iload_n 3, 40, []), (40, .invokevirtual 224, 43, []), (43, .invokevirtual 205, 46, []), (46, .invokevirtual 214, 49, []), (49, .ireturn, 50, [])]
set_option maxRecDepth 200000 in
theorem tc_X10_spanG : T_X10_spanG.all (chk cX10_spanG) = true := by decide +kernel
def f_X10_spanG (N : Nat) : Nat → Int32 → Int32 → Wd → Option (Int32 × Wd)
  | 0, _, _, _ => none
  | d + 1, a1, a2, σ => if a1 = a2 then ((f_X10_g N a1 σ).bind fun p1 => some (p1.1, p1.2)) else (((f_X10_spanG N d) (((a1 + a2) / 2) + 1) a2 σ).bind fun p2 => (f_X10_spanP N 9 (((a1 + a2) / 2) + 1) a2 p2.2).bind fun p3 => ((f_X10_spanG N d) a1 ((a1 + a2) / 2) p3.2).bind fun p4 => (f_X10_and N p3.1 p4.1 p4.2).bind fun p5 => (f_X10_or N p2.1 p5.1 p5.2).bind fun p6 => some (p6.1, p6.2))
def aR_X10_spanG (REC : Int32 → Int32 → Wd → Option (Int32 × Wd)) : List Value → Wd → Option (Int32 × Wd) := fun as σ => kSE 41 as (fun r0 => kSI r0 (fun b1 r1 => kSI r1 (fun b2 r2 => kS0 r2 (REC b1 b2 σ)))) (none)
def a_X10_spanG (N d : Nat) : List Value → Wd → Option (Int32 × Wd) := aR_X10_spanG (f_X10_spanG N d)
set_option maxRecDepth 200000 in
theorem k_X10_224 : calchk RX10 224 3 10 yX10_spanG cX10_spanG 4 (some .int) = true := by decide +kernel
def ct_X10_spanG (N : Nat) (REC : Int32 → Int32 → Wd → Option (Int32 × Wd)) : List (Nat × Cal) := [(211, 2, 10, .inl (a_X10_g N)), (224, 3, 10, .inl (aR_X10_spanG REC)), (221, 3, 10, .inl (a_X10_spanP N 9)), (205, 3, 10, .inl (a_X10_and N)), (214, 3, 10, .inl (a_X10_or N))]
set_option maxRecDepth 200000 in
theorem md_X10_spanG (N : Nat) (REC : Int32 → Int32 → Wd → Option (Int32 × Wd)) (lv0 : Nat) (hlv : 14 ≤ lv0) (hREC : CTI lv0 yX10_spanG cX10_spanG 4 (some .int) (aR_X10_spanG REC)) : MDOK T_X10_spanG ft_X10 lt_X10 (ct_X10_spanG N REC) cX10_spanG RX10 (lv0 + 1) := ⟨tc_X10_spanG, fc_X10, lc_X10, List.forall_mem_cons.mpr ⟨Or.inl ⟨yX10_g, cX10_g, 2, (some .int), 3, k_X10_211, by omega, C_X10_g N⟩, List.forall_mem_cons.mpr ⟨Or.inl ⟨yX10_spanG, cX10_spanG, 4, (some .int), lv0, k_X10_224, Nat.le_refl _, hREC⟩, List.forall_mem_cons.mpr ⟨Or.inl ⟨yX10_spanP, cX10_spanP, 4, (some .int), 14, k_X10_221, by omega, C_X10_spanP N 9⟩, List.forall_mem_cons.mpr ⟨Or.inl ⟨yX10_and, cX10_and, 3, (some .int), 2, k_X10_205, by omega, C_X10_and N⟩, List.forall_mem_cons.mpr ⟨Or.inl ⟨yX10_or, cX10_or, 3, (some .int), 2, k_X10_214, by omega, C_X10_or N⟩, (fun _ z => absurd z List.not_mem_nil)⟩⟩⟩⟩⟩⟩
set_option maxRecDepth 200000 in
theorem C_X10_spanG (N : Nat) : ∀ d : Nat, CTI (15 + d) yX10_spanG cX10_spanG 4 (some .int) (a_X10_spanG N d)
  | 0 => by
    refine CTI.of (own := RX10) (by decide) rfl (fun as σ r h => ?_)
    unfold a_X10_spanG aR_X10_spanG at h
    rcases kSE_s h with ⟨r0, rfl, h0⟩ | hn
    ·
      obtain ⟨b1, r1, rfl, h1⟩ := kSI_s h0
      obtain ⟨b2, r2, rfl, h2⟩ := kSI_s h1
      obtain ⟨rfl, h9⟩ := kS0_s h2
      exact ⟨Nat.le_of_ble_eq_true rfl, GO.none⟩
    cases hn
  | d + 1 => by
    refine CTI.of (own := RX10) (by decide) rfl (fun as σ r h => ?_)
    unfold a_X10_spanG aR_X10_spanG at h
    rcases kSE_s h with ⟨r0, rfl, h0⟩ | hn
    ·
      obtain ⟨b1, r1, rfl, h1⟩ := kSI_s h0
      obtain ⟨b2, r2, rfl, h2⟩ := kSI_s h1
      obtain ⟨rfl, h9⟩ := kS0_s h2
      exact ⟨Nat.le_of_ble_eq_true rfl, by refine GO.to (md_X10_spanG N (f_X10_spanG N d) (15 + d) (by omega) (C_X10_spanG N d)) (kl := []) ((fun _ z => absurd z List.not_mem_nil)) 39 ?_ ?_ <;> rfl⟩
    cases hn
def T_X10_looksAhead : List (Nat × Ent) := [(0, .iload_n 3, 1, []), (1, .istore 4, 3, []), (3, .iload_n 1, 4, []), (4, .istore 5, 6, []), (6, .iload 5, 8, []), (8, .iload_n 1, 9, []), (9, .iload_n 2, 10, []), (10, .iadd, 11, []), (11, .if_icmp .ge 53, 14, [64]), (14, .aload_n 0, 15, []), (15, .getfield 66, 18, []), (18, .iload 5, 20, []), (20, .aload_n 0, 21, []), (21, .aload_n 0, 22, []), (22, .iload 5, 24, []), (24, .invokevirtual 208, 27, []), (27, .iload 4, 29, []), (29, .invokevirtual 202, 32, []), (32, .iastore, 33, []), (33, .aload_n 0, 34, []), (34, .aload_n 0, 35, []), (35, .iload_n 1, 36, []), (36, .iload 5, 38, []), (38, .invokevirtual 224, 41, []), (41, .aload_n 0, 42, []), (42, .aload_n 0, 43, []), (43, .iload_n 1, 44, []), (44, .iload 5, 46, []), (46, .invokevirtual 221, 49, []), (49, .iload_n 3, 50, []), (50, .invokevirtual 205, 53, []), (53, .invokevirtual 214, 56, []), (56, .istore 4, 58, []), (58, .iinc 5 1, 61, []), (61, .goto (-55), 64, [6]), (64, .iload 4, 66, []), (66, .ireturn, 67, [])]
set_option maxRecDepth 200000 in
theorem tc_X10_looksAhead : T_X10_looksAhead.all (chk cX10_looksAhead) = true := by decide +kernel
def f_X10_looksAhead_L6 (N : Nat) (KO64 : Int32 → Wd → Option (Int32 × Wd)) : Nat → Int32 → Int32 → Int32 → Int32 → Int32 → Wd → Option (Int32 × Wd)
  | 0, _, _, _, _, _, _ => none
  | n + 1, x1, x2, x3, x4, x5, σ => if (x1 + x2) ≤ x5 then (KO64 x4 σ) else ((f_X10_p N x5 σ).bind fun p1 => (f_X10_xor N p1.1 x4 p1.2).bind fun p2 => (xst p2.2 60 13 x5 p2.1).bind fun σ3 => (f_X10_spanG N 9 x1 x5 σ3).bind fun p4 => (f_X10_spanP N 9 x1 x5 p4.2).bind fun p5 => (f_X10_and N p5.1 x3 p5.2).bind fun p6 => (f_X10_or N p4.1 p6.1 p6.2).bind fun p7 => f_X10_looksAhead_L6 N KO64 n x1 x2 x3 p7.1 (x5 + 1) p7.2)
def f_X10_looksAhead_J64 (N : Nat) (x4 : Int32) (σ : Wd) : Option (Int32 × Wd) :=
  some (x4, σ)
def f_X10_looksAhead (N : Nat) (a1 : Int32) (a2 : Int32) (a3 : Int32) (σ : Wd) : Option (Int32 × Wd) :=
  f_X10_looksAhead_L6 N (f_X10_looksAhead_J64 N) N a1 a2 a3 a3 a1 σ
def a_X10_looksAhead (N : Nat) : List Value → Wd → Option (Int32 × Wd) := fun as σ => kSE 41 as (fun r0 => kSI r0 (fun b1 r1 => kSI r1 (fun b2 r2 => kSI r2 (fun b3 r3 => kS0 r3 (f_X10_looksAhead N b1 b2 b3 σ))))) (none)
def ct_X10_looksAhead (N : Nat) : List (Nat × Cal) := [(208, 2, 10, .inl (a_X10_p N)), (202, 3, 10, .inl (a_X10_xor N)), (224, 3, 10, .inl (a_X10_spanG N 9)), (221, 3, 10, .inl (a_X10_spanP N 9)), (205, 3, 10, .inl (a_X10_and N)), (214, 3, 10, .inl (a_X10_or N))]
set_option maxRecDepth 200000 in
theorem md_X10_looksAhead (N : Nat) : MDOK T_X10_looksAhead ft_X10 lt_X10 (ct_X10_looksAhead N) cX10_looksAhead RX10 25 := ⟨tc_X10_looksAhead, fc_X10, lc_X10, List.forall_mem_cons.mpr ⟨Or.inl ⟨yX10_p, cX10_p, 2, (some .int), 4, k_X10_208, Nat.le_of_ble_eq_true rfl, C_X10_p N⟩, List.forall_mem_cons.mpr ⟨Or.inl ⟨yX10_xor, cX10_xor, 3, (some .int), 3, k_X10_202, Nat.le_of_ble_eq_true rfl, C_X10_xor N⟩, List.forall_mem_cons.mpr ⟨Or.inl ⟨yX10_spanG, cX10_spanG, 4, (some .int), 24, k_X10_224, Nat.le_of_ble_eq_true rfl, C_X10_spanG N 9⟩, List.forall_mem_cons.mpr ⟨Or.inl ⟨yX10_spanP, cX10_spanP, 4, (some .int), 14, k_X10_221, Nat.le_of_ble_eq_true rfl, C_X10_spanP N 9⟩, List.forall_mem_cons.mpr ⟨Or.inl ⟨yX10_and, cX10_and, 3, (some .int), 2, k_X10_205, Nat.le_of_ble_eq_true rfl, C_X10_and N⟩, List.forall_mem_cons.mpr ⟨Or.inl ⟨yX10_or, cX10_or, 3, (some .int), 2, k_X10_214, Nat.le_of_ble_eq_true rfl, C_X10_or N⟩, (fun _ z => absurd z List.not_mem_nil)⟩⟩⟩⟩⟩⟩⟩
set_option maxRecDepth 200000 in
theorem g_X10_looksAhead_L6 (N : Nat) (KO64 : Int32 → Wd → Option (Int32 × Wd)) (hKO64 : ∀ (x4 : Int32) (σ : Wd), GO cX10_looksAhead RX10 6 25 sc0 rI nJ0 nV0 (KO64 x4 σ) 64 (mkp 0 6 [(4, .int x4)]) [] σ) : ∀ (n : Nat), ∀ (x1 : Int32) (x2 : Int32) (x3 : Int32) (x4 : Int32) (x5 : Int32) (σ : Wd), GO cX10_looksAhead RX10 6 25 sc0 rI nJ0 nV0 (f_X10_looksAhead_L6 N KO64 n x1 x2 x3 x4 x5 σ) 6 (mkp 0 6 [(0, .ref 41), (1, .int x1), (2, .int x2), (3, .int x3), (4, .int x4), (5, .int x5)]) [] σ
  | 0, x1, x2, x3, x4, x5, σ => GO.none
  | n + 1, x1, x2, x3, x4, x5, σ => by
    exact (by refine GO.to (md_X10_looksAhead N) (kl := [(64, fun vs st σ => kS0 st (kI 4 vs (fun x4 => KO64 x4 σ))), (6, fun vs st σ => kS0 st (kA 0 41 vs (kI 1 vs (fun x1 => kI 2 vs (fun x2 => kI 3 vs (fun x3 => kI 4 vs (fun x4 => kI 5 vs (fun x5 => f_X10_looksAhead_L6 N KO64 n x1 x2 x3 x4 x5 σ))))))))]) (List.forall_mem_cons.mpr ⟨fun vs st σ => go_kS0 (go_kI (fun x4 h4 => GO.pat [(4, .int x4)] ⟨h4, trivial⟩ (hKO64 x4 σ))), List.forall_mem_cons.mpr ⟨fun vs st σ => go_kS0 (go_kA (fun h0 => go_kI (fun x1 h1 => go_kI (fun x2 h2 => go_kI (fun x3 h3 => go_kI (fun x4 h4 => go_kI (fun x5 h5 => GO.pat [(0, .ref 41), (1, .int x1), (2, .int x2), (3, .int x3), (4, .int x4), (5, .int x5)] ⟨h0, h1, h2, h3, h4, h5, trivial⟩ (g_X10_looksAhead_L6 N KO64 hKO64 n x1 x2 x3 x4 x5 σ)))))))), (fun _ z => absurd z List.not_mem_nil)⟩⟩) 42 ?_ ?_ <;> rfl)
set_option maxRecDepth 200000 in
theorem g_X10_looksAhead_J64 (N : Nat) (x4 : Int32) (σ : Wd) : GO cX10_looksAhead RX10 6 25 sc0 rI nJ0 nV0 (f_X10_looksAhead_J64 N x4 σ) 64 (mkp 0 6 [(4, .int x4)]) [] σ := by
  exact (by refine GO.to (md_X10_looksAhead N) (kl := []) ((fun _ z => absurd z List.not_mem_nil)) 42 ?_ ?_ <;> rfl)
set_option maxRecDepth 200000 in
theorem C_X10_looksAhead (N : Nat) : CTI 25 yX10_looksAhead cX10_looksAhead 6 (some .int) (a_X10_looksAhead N) := by
  refine CTI.of (own := RX10) (by decide) rfl (fun as σ r h => ?_)
  unfold a_X10_looksAhead at h
  rcases kSE_s h with ⟨r0, rfl, h0⟩ | hn
  ·
    obtain ⟨b1, r1, rfl, h1⟩ := kSI_s h0
    obtain ⟨b2, r2, rfl, h2⟩ := kSI_s h1
    obtain ⟨b3, r3, rfl, h3⟩ := kSI_s h2
    obtain ⟨rfl, h9⟩ := kS0_s h3
    exact ⟨Nat.le_of_ble_eq_true rfl, by refine GO.to (md_X10_looksAhead N) (kl := [(6, fun vs st σ => kS0 st (kA 0 41 vs (kI 1 vs (fun x1 => kI 2 vs (fun x2 => kI 3 vs (fun x3 => kI 4 vs (fun x4 => kI 5 vs (fun x5 => f_X10_looksAhead_L6 N (f_X10_looksAhead_J64 N) N x1 x2 x3 x4 x5 σ))))))))]) (List.forall_mem_cons.mpr ⟨fun vs st σ => go_kS0 (go_kA (fun h0 => go_kI (fun x1 h1 => go_kI (fun x2 h2 => go_kI (fun x3 h3 => go_kI (fun x4 h4 => go_kI (fun x5 h5 => GO.pat [(0, .ref 41), (1, .int x1), (2, .int x2), (3, .int x3), (4, .int x4), (5, .int x5)] ⟨h0, h1, h2, h3, h4, h5, trivial⟩ (g_X10_looksAhead_L6 N (f_X10_looksAhead_J64 N) (g_X10_looksAhead_J64 N) N x1 x2 x3 x4 x5 σ)))))))), (fun _ z => absurd z List.not_mem_nil)⟩) 42 ?_ ?_ <;> rfl⟩
  cases hn
def T_X10_builds : List (Nat × Ent) := [(0, .iconst 0, 1, []), (1, .istore 4, 3, []), (3, .bipush 24, 5, []), (5, .istore 5, 7, []), (7, .iload_n 2, 8, []), (8, .istore 6, 10, []), (10, .iload 6, 12, []), (12, .iload_n 2, 13, []), (13, .iload_n 3, 14, []), (14, .iadd, 15, []), (15, .if_icmp .ge 106, 18, [121]), (18, .aload_n 1, 19, []), (19, .iload 6, 21, []), (21, .iaload, 22, []), (22, .bipush 10, 24, []), (24, .idiv, 25, []), (25, .istore 7, 27, []), (27, .aload_n 1, 28, []), (28, .iload 6, 30, []), (30, .iaload, 31, []), (31, .bipush 10, 33, []), (33, .irem, 34, []), (34, .istore 8, 36, []), (36, .iload 7, 38, []), (38, .ifCond .ne 20, 41, [58]), (41, .aload_n 0, 42, []), (42, .iload 4, 44, []), (44, .iload 8, 46, []), (46, .iload 5, 48, []), (48, .aload_n 0, 49, []), (49, .getfield 66, 52, []), (52, .invokevirtual 217, 55, []), (55, .goto 51, 58, [106]), (58, .iload 7, 60, []), (60, .iconst 1, 61, []), (61, .if_icmp .ne 16, 64, [77]), (64, .aload_n 0, 65, []), (65, .iload 4, 67, []), (67, .iload 8, 69, []), (69, .iload 5, 71, []), (71, .invokevirtual 227, 74, []), (74, .goto 32, 77, [106]), (77, .iload 7, 79, []), (79, .iconst 2, 80, []), (80, .if_icmp .ne 16, 83, [96]), (83, .aload_n 0, 84, []), (84, .iload 4, 86, []), (86, .iload 8, 88, []), (88, .iload 5, 90, []), (90, .invokevirtual 230, 93, []), (93, .goto 13, 96, [106]), (96, .aload_n 0, 97, []), (97, .iload 4, 99, []), (99, .iload 8, 101, []), (101, .iload 5, 103, []), (103, .invokevirtual 233, 106, []), (106, .istore 5, 108, []), (108, .iload 4, 110, []), (110, .iload 8, 112, []), (112, .iadd, 113, []), (113, .istore 4, 115, []), (115, .iinc 6 1, 118, []), (118, .goto (-108), 121, [10]), (121, .aload_n 0, 122, []), (122, .getfield 66, 125, []), (125, .iload 4, 127, []), (127, .iload 5, 129, []), (129, .iastore, 130, []), (130, .aload_n 0, 131, []), (131, .iload 4, 133, []), (133, .iconst 1, 134, []), (134, .iadd, 135, []), (135, .putfield 236, 138, []), (138, .return_, 139, [])]
set_option maxRecDepth 200000 in
theorem tc_X10_builds : T_X10_builds.all (chk cX10_builds) = true := by decide +kernel
def f_X10_builds_L10 (N : Nat) (K1 K1L : Nat) (KO121 : Int32 → Int32 → Wd → Option Wd) : Nat → Int32 → Int32 → Int32 → Int32 → Int32 → Wd → Option Wd
  | 0, _, _, _, _, _, _ => none
  | n + 1, x2, x3, x4, x5, x6, σ => if (x2 + x3) ≤ x6 then (KO121 x4 x5 σ) else ((xld σ K1 K1L x6).bind fun v1 => (xld σ K1 K1L x6).bind fun v2 => if (v1 / 10) = 0 then ((f_X10_ripples N 60 13 x4 (v2 - v2 / 10 * 10) x5 σ).bind fun p3 => f_X10_builds_L10 N K1 K1L KO121 n x2 x3 (x4 + (v2 - v2 / 10 * 10)) p3.1 (x6 + 1) p3.2) else (if (v1 / 10) = 1 then ((f_X10_skips N x4 (v2 - v2 / 10 * 10) x5 σ).bind fun p4 => f_X10_builds_L10 N K1 K1L KO121 n x2 x3 (x4 + (v2 - v2 / 10 * 10)) p4.1 (x6 + 1) p4.2) else (if (v1 / 10) = 2 then ((f_X10_selects N x4 (v2 - v2 / 10 * 10) x5 σ).bind fun p5 => f_X10_builds_L10 N K1 K1L KO121 n x2 x3 (x4 + (v2 - v2 / 10 * 10)) p5.1 (x6 + 1) p5.2) else ((f_X10_looksAhead N x4 (v2 - v2 / 10 * 10) x5 σ).bind fun p6 => f_X10_builds_L10 N K1 K1L KO121 n x2 x3 (x4 + (v2 - v2 / 10 * 10)) p6.1 (x6 + 1) p6.2))))
def f_X10_builds_J121 (N : Nat) (K1 K1L : Nat) (x4 : Int32) (x5 : Int32) (σ : Wd) : Option Wd :=
  (xst σ 60 13 x4 x5).bind fun σ7 => let σ8 : Wd := sF σ7 41 28 (x4 + 1)
  some σ8
def f_X10_builds (N : Nat) (K1 K1L : Nat) (a2 : Int32) (a3 : Int32) (σ : Wd) : Option Wd :=
  f_X10_builds_L10 N K1 K1L (f_X10_builds_J121 N K1 K1L) N a2 a3 0 24 a2 σ
def a_X10_builds (N : Nat) : List Value → Wd → Option Wd := fun as σ => kSE 41 as (fun r0 => kSE 44 r0 (fun r1 => kSI r1 (fun b2 r2 => kSI r2 (fun b3 r3 => kS0 r3 (f_X10_builds N 44 96 b2 b3 σ)))) (kSE 63 r0 (fun r1 => kSI r1 (fun b2 r2 => kSI r2 (fun b3 r3 => kS0 r3 (f_X10_builds N 63 8 b2 b3 σ)))) (none))) (none)
set_option maxRecDepth 200000 in
theorem k_X10_227 : calchk RX10 227 4 10 yX10_skips cX10_skips 7 (some .int) = true := by decide +kernel
set_option maxRecDepth 200000 in
theorem k_X10_230 : calchk RX10 230 4 10 yX10_selects cX10_selects 7 (some .int) = true := by decide +kernel
set_option maxRecDepth 200000 in
theorem k_X10_233 : calchk RX10 233 4 10 yX10_looksAhead cX10_looksAhead 6 (some .int) = true := by decide +kernel
def ct_X10_builds (N : Nat) : List (Nat × Cal) := [(217, 5, 10, .inl (a_X10_ripples N)), (227, 4, 10, .inl (a_X10_skips N)), (230, 4, 10, .inl (a_X10_selects N)), (233, 4, 10, .inl (a_X10_looksAhead N))]
set_option maxRecDepth 200000 in
theorem md_X10_builds (N : Nat) : MDOK T_X10_builds ft_X10 lt_X10 (ct_X10_builds N) cX10_builds RX10 26 := ⟨tc_X10_builds, fc_X10, lc_X10, List.forall_mem_cons.mpr ⟨Or.inl ⟨yX10_ripples, cX10_ripples, 7, (some .int), 5, k_X10_217, Nat.le_of_ble_eq_true rfl, C_X10_ripples N⟩, List.forall_mem_cons.mpr ⟨Or.inl ⟨yX10_skips, cX10_skips, 7, (some .int), 6, k_X10_227, Nat.le_of_ble_eq_true rfl, C_X10_skips N⟩, List.forall_mem_cons.mpr ⟨Or.inl ⟨yX10_selects, cX10_selects, 7, (some .int), 6, k_X10_230, Nat.le_of_ble_eq_true rfl, C_X10_selects N⟩, List.forall_mem_cons.mpr ⟨Or.inl ⟨yX10_looksAhead, cX10_looksAhead, 6, (some .int), 25, k_X10_233, Nat.le_of_ble_eq_true rfl, C_X10_looksAhead N⟩, (fun _ z => absurd z List.not_mem_nil)⟩⟩⟩⟩⟩
set_option maxRecDepth 200000 in
theorem g_X10_builds_L10 (N : Nat) (K1 K1L : Nat) (hK1 : (K1 = 44 ∧ K1L = 96) ∨ (K1 = 63 ∧ K1L = 8)) (KO121 : Int32 → Int32 → Wd → Option Wd) (hKO121 : ∀ (x4 : Int32) (x5 : Int32) (σ : Wd), GO cX10_builds RX10 9 26 sc0 nI0 nJ0 some (KO121 x4 x5 σ) 121 (mkp 0 9 [(0, .ref 41), (4, .int x4), (5, .int x5)]) [] σ) : ∀ (n : Nat), ∀ (x2 : Int32) (x3 : Int32) (x4 : Int32) (x5 : Int32) (x6 : Int32) (σ : Wd), GO cX10_builds RX10 9 26 sc0 nI0 nJ0 some (f_X10_builds_L10 N K1 K1L KO121 n x2 x3 x4 x5 x6 σ) 10 (mkp 0 9 [(0, .ref 41), (1, .ref K1), (2, .int x2), (3, .int x3), (4, .int x4), (5, .int x5), (6, .int x6)]) [] σ
  | 0, x2, x3, x4, x5, x6, σ => GO.none
  | n + 1, x2, x3, x4, x5, x6, σ => by
    rcases hK1 with ⟨rfl, rfl⟩ | ⟨rfl, rfl⟩
    · exact (by refine GO.to (md_X10_builds N) (kl := [(121, fun vs st σ => kS0 st (kA 0 41 vs (kI 4 vs (fun x4 => kI 5 vs (fun x5 => KO121 x4 x5 σ))))), (10, fun vs st σ => kS0 st (kA 0 41 vs (kA 1 44 vs (kI 2 vs (fun x2 => kI 3 vs (fun x3 => kI 4 vs (fun x4 => kI 5 vs (fun x5 => kI 6 vs (fun x6 => f_X10_builds_L10 N 44 96 KO121 n x2 x3 x4 x5 x6 σ)))))))))]) (List.forall_mem_cons.mpr ⟨fun vs st σ => go_kS0 (go_kA (fun h0 => go_kI (fun x4 h4 => go_kI (fun x5 h5 => GO.pat [(0, .ref 41), (4, .int x4), (5, .int x5)] ⟨h0, h4, h5, trivial⟩ (hKO121 x4 x5 σ))))), List.forall_mem_cons.mpr ⟨fun vs st σ => go_kS0 (go_kA (fun h0 => go_kA (fun h1 => go_kI (fun x2 h2 => go_kI (fun x3 h3 => go_kI (fun x4 h4 => go_kI (fun x5 h5 => go_kI (fun x6 h6 => GO.pat [(0, .ref 41), (1, .ref 44), (2, .int x2), (3, .int x3), (4, .int x4), (5, .int x5), (6, .int x6)] ⟨h0, h1, h2, h3, h4, h5, h6, trivial⟩ (g_X10_builds_L10 N 44 96 (Or.inl ⟨rfl, rfl⟩) KO121 hKO121 n x2 x3 x4 x5 x6 σ))))))))), (fun _ z => absurd z List.not_mem_nil)⟩⟩) 79 ?_ ?_ <;> rfl)
    · exact (by refine GO.to (md_X10_builds N) (kl := [(121, fun vs st σ => kS0 st (kA 0 41 vs (kI 4 vs (fun x4 => kI 5 vs (fun x5 => KO121 x4 x5 σ))))), (10, fun vs st σ => kS0 st (kA 0 41 vs (kA 1 63 vs (kI 2 vs (fun x2 => kI 3 vs (fun x3 => kI 4 vs (fun x4 => kI 5 vs (fun x5 => kI 6 vs (fun x6 => f_X10_builds_L10 N 63 8 KO121 n x2 x3 x4 x5 x6 σ)))))))))]) (List.forall_mem_cons.mpr ⟨fun vs st σ => go_kS0 (go_kA (fun h0 => go_kI (fun x4 h4 => go_kI (fun x5 h5 => GO.pat [(0, .ref 41), (4, .int x4), (5, .int x5)] ⟨h0, h4, h5, trivial⟩ (hKO121 x4 x5 σ))))), List.forall_mem_cons.mpr ⟨fun vs st σ => go_kS0 (go_kA (fun h0 => go_kA (fun h1 => go_kI (fun x2 h2 => go_kI (fun x3 h3 => go_kI (fun x4 h4 => go_kI (fun x5 h5 => go_kI (fun x6 h6 => GO.pat [(0, .ref 41), (1, .ref 63), (2, .int x2), (3, .int x3), (4, .int x4), (5, .int x5), (6, .int x6)] ⟨h0, h1, h2, h3, h4, h5, h6, trivial⟩ (g_X10_builds_L10 N 63 8 (Or.inr ⟨rfl, rfl⟩) KO121 hKO121 n x2 x3 x4 x5 x6 σ))))))))), (fun _ z => absurd z List.not_mem_nil)⟩⟩) 79 ?_ ?_ <;> rfl)
set_option maxRecDepth 200000 in
theorem g_X10_builds_J121 (N : Nat) (K1 K1L : Nat) (hK1 : (K1 = 44 ∧ K1L = 96) ∨ (K1 = 63 ∧ K1L = 8)) (x4 : Int32) (x5 : Int32) (σ : Wd) : GO cX10_builds RX10 9 26 sc0 nI0 nJ0 some (f_X10_builds_J121 N K1 K1L x4 x5 σ) 121 (mkp 0 9 [(0, .ref 41), (4, .int x4), (5, .int x5)]) [] σ := by
  rcases hK1 with ⟨rfl, rfl⟩ | ⟨rfl, rfl⟩
  · exact (by refine GO.to (md_X10_builds N) (kl := []) ((fun _ z => absurd z List.not_mem_nil)) 79 ?_ ?_ <;> rfl)
  · exact (by refine GO.to (md_X10_builds N) (kl := []) ((fun _ z => absurd z List.not_mem_nil)) 79 ?_ ?_ <;> rfl)
set_option maxRecDepth 200000 in
theorem C_X10_builds (N : Nat) : CTV 26 yX10_builds cX10_builds 9 none (a_X10_builds N) := by
  refine CTV.of (own := RX10) (by decide) rfl (fun as σ r h => ?_)
  unfold a_X10_builds at h
  rcases kSE_s h with ⟨r0, rfl, h0⟩ | hn
  ·
    rcases kSE_s h0 with ⟨r1, rfl, h1⟩ | h0n
    ·
      obtain ⟨b2, r2, rfl, h2⟩ := kSI_s h1
      obtain ⟨b3, r3, rfl, h3⟩ := kSI_s h2
      obtain ⟨rfl, h9⟩ := kS0_s h3
      exact ⟨Nat.le_of_ble_eq_true rfl, by refine GO.to (md_X10_builds N) (kl := [(10, fun vs st σ => kS0 st (kA 0 41 vs (kA 1 44 vs (kI 2 vs (fun x2 => kI 3 vs (fun x3 => kI 4 vs (fun x4 => kI 5 vs (fun x5 => kI 6 vs (fun x6 => f_X10_builds_L10 N 44 96 (f_X10_builds_J121 N 44 96) N x2 x3 x4 x5 x6 σ)))))))))]) (List.forall_mem_cons.mpr ⟨fun vs st σ => go_kS0 (go_kA (fun h0 => go_kA (fun h1 => go_kI (fun x2 h2 => go_kI (fun x3 h3 => go_kI (fun x4 h4 => go_kI (fun x5 h5 => go_kI (fun x6 h6 => GO.pat [(0, .ref 41), (1, .ref 44), (2, .int x2), (3, .int x3), (4, .int x4), (5, .int x5), (6, .int x6)] ⟨h0, h1, h2, h3, h4, h5, h6, trivial⟩ (g_X10_builds_L10 N 44 96 (Or.inl ⟨rfl, rfl⟩) (f_X10_builds_J121 N 44 96) (g_X10_builds_J121 N 44 96 (Or.inl ⟨rfl, rfl⟩)) N x2 x3 x4 x5 x6 σ))))))))), (fun _ z => absurd z List.not_mem_nil)⟩) 79 ?_ ?_ <;> rfl⟩
    rcases kSE_s h0n with ⟨r1, rfl, h1⟩ | h0nn
    ·
      obtain ⟨b2, r2, rfl, h2⟩ := kSI_s h1
      obtain ⟨b3, r3, rfl, h3⟩ := kSI_s h2
      obtain ⟨rfl, h9⟩ := kS0_s h3
      exact ⟨Nat.le_of_ble_eq_true rfl, by refine GO.to (md_X10_builds N) (kl := [(10, fun vs st σ => kS0 st (kA 0 41 vs (kA 1 63 vs (kI 2 vs (fun x2 => kI 3 vs (fun x3 => kI 4 vs (fun x4 => kI 5 vs (fun x5 => kI 6 vs (fun x6 => f_X10_builds_L10 N 63 8 (f_X10_builds_J121 N 63 8) N x2 x3 x4 x5 x6 σ)))))))))]) (List.forall_mem_cons.mpr ⟨fun vs st σ => go_kS0 (go_kA (fun h0 => go_kA (fun h1 => go_kI (fun x2 h2 => go_kI (fun x3 h3 => go_kI (fun x4 h4 => go_kI (fun x5 h5 => go_kI (fun x6 h6 => GO.pat [(0, .ref 41), (1, .ref 63), (2, .int x2), (3, .int x3), (4, .int x4), (5, .int x5), (6, .int x6)] ⟨h0, h1, h2, h3, h4, h5, h6, trivial⟩ (g_X10_builds_L10 N 63 8 (Or.inr ⟨rfl, rfl⟩) (f_X10_builds_J121 N 63 8) (g_X10_builds_J121 N 63 8 (Or.inr ⟨rfl, rfl⟩)) N x2 x3 x4 x5 x6 σ))))))))), (fun _ z => absurd z List.not_mem_nil)⟩) 79 ?_ ?_ <;> rfl⟩
    cases h0nn
  cases hn
def T_X10_lays : List (Nat × Ent) := [(0, .aload_n 0, 1, []), (1, .invokevirtual 239, 4, []), (4, .iconst 0, 5, []), (5, .istore 4, 7, []), (7, .iload 4, 9, []), (9, .sipush 2048, 12, []), (12, .if_icmp .ge 17, 15, [29]), (15, .aload_n 0, 16, []), (16, .getfield 54, 19, []), (19, .iload 4, 21, []), (21, .iconst 0, 22, []), (22, .iastore, 23, []), (23, .iinc 4 1, 26, []), (26, .goto (-19), 29, [7]), (29, .aload_n 0, 30, []), (30, .aload_n 1, 31, []), (31, .iload_n 2, 32, []), (32, .iload_n 3, 33, []), (33, .invokevirtual 242, 36, []), (36, .aload_n 0, 37, []), (37, .iconst 1, 38, []), (38, .invokevirtual 246, 41, []), (41, .aload_n 0, 42, []), (42, .invokevirtual 249, 45, []), (45, .return_, 46, [])]
set_option maxRecDepth 200000 in
theorem tc_X10_lays : T_X10_lays.all (chk cX10_lays) = true := by decide +kernel
def f_X10_lays_L7 (N : Nat) (K1 K1L : Nat) (KO29 : Int32 → Int32 → Wd → Option Wd) : Nat → Int32 → Int32 → Int32 → Wd → Option Wd
  | 0, _, _, _, _ => none
  | n + 1, x2, x3, x4, σ => if 2048 ≤ x4 then (KO29 x2 x3 σ) else ((xst σ 56 2048 x4 0).bind fun σ2 => f_X10_lays_L7 N K1 K1L KO29 n x2 x3 (x4 + 1) σ2)
def f_X10_lays_J29 (N : Nat) (K1 K1L : Nat) (x2 : Int32) (x3 : Int32) (σ : Wd) : Option Wd :=
  (f_X10_builds N K1 K1L x2 x3 σ).bind fun σ3 => (f_X10_marks N 1 σ3).bind fun σ4 => (f_X10_tellsTimes N σ4).bind fun σ5 => some σ5
def f_X10_lays (N : Nat) (K1 K1L : Nat) (a2 : Int32) (a3 : Int32) (σ : Wd) : Option Wd :=
  (f_X10_clears N σ).bind fun σ1 => f_X10_lays_L7 N K1 K1L (f_X10_lays_J29 N K1 K1L) N a2 a3 0 σ1
def a_X10_lays (N : Nat) : List Value → Wd → Option Wd := fun as σ => kSE 41 as (fun r0 => kSE 44 r0 (fun r1 => kSI r1 (fun b2 r2 => kSI r2 (fun b3 r3 => kS0 r3 (f_X10_lays N 44 96 b2 b3 σ)))) (kSE 63 r0 (fun r1 => kSI r1 (fun b2 r2 => kSI r2 (fun b3 r3 => kS0 r3 (f_X10_lays N 63 8 b2 b3 σ)))) (none))) (none)
set_option maxRecDepth 200000 in
theorem k_X10_239 : calchk RX10 239 1 10 yX10_clears cX10_clears 2 none = true := by decide +kernel
set_option maxRecDepth 200000 in
theorem k_X10_242 : calchk RX10 242 4 10 yX10_builds cX10_builds 9 none = true := by decide +kernel
set_option maxRecDepth 200000 in
theorem k_X10_246 : calchk RX10 246 2 10 yX10_marks cX10_marks 4 none = true := by decide +kernel
set_option maxRecDepth 200000 in
theorem k_X10_249 : calchk RX10 249 1 10 yX10_tellsTimes cX10_tellsTimes 6 none = true := by decide +kernel
def ct_X10_lays (N : Nat) : List (Nat × Cal) := [(239, 1, 10, .inr (.inr (a_X10_clears N))), (242, 4, 10, .inr (.inr (a_X10_builds N))), (246, 2, 10, .inr (.inr (a_X10_marks N))), (249, 1, 10, .inr (.inr (a_X10_tellsTimes N)))]
set_option maxRecDepth 200000 in
theorem md_X10_lays (N : Nat) : MDOK T_X10_lays ft_X10 lt_X10 (ct_X10_lays N) cX10_lays RX10 27 := ⟨tc_X10_lays, fc_X10, lc_X10, List.forall_mem_cons.mpr ⟨Or.inl ⟨yX10_clears, cX10_clears, 2, none, 1, k_X10_239, Nat.le_of_ble_eq_true rfl, C_X10_clears N⟩, List.forall_mem_cons.mpr ⟨Or.inl ⟨yX10_builds, cX10_builds, 9, none, 26, k_X10_242, Nat.le_of_ble_eq_true rfl, C_X10_builds N⟩, List.forall_mem_cons.mpr ⟨Or.inl ⟨yX10_marks, cX10_marks, 4, none, 1, k_X10_246, Nat.le_of_ble_eq_true rfl, C_X10_marks N⟩, List.forall_mem_cons.mpr ⟨Or.inl ⟨yX10_tellsTimes, cX10_tellsTimes, 6, none, 1, k_X10_249, Nat.le_of_ble_eq_true rfl, C_X10_tellsTimes N⟩, (fun _ z => absurd z List.not_mem_nil)⟩⟩⟩⟩⟩
set_option maxRecDepth 200000 in
theorem g_X10_lays_L7 (N : Nat) (K1 K1L : Nat) (hK1 : (K1 = 44 ∧ K1L = 96) ∨ (K1 = 63 ∧ K1L = 8)) (KO29 : Int32 → Int32 → Wd → Option Wd) (hKO29 : ∀ (x2 : Int32) (x3 : Int32) (σ : Wd), GO cX10_lays RX10 5 27 sc0 nI0 nJ0 some (KO29 x2 x3 σ) 29 (mkp 0 5 [(0, .ref 41), (1, .ref K1), (2, .int x2), (3, .int x3)]) [] σ) : ∀ (n : Nat), ∀ (x2 : Int32) (x3 : Int32) (x4 : Int32) (σ : Wd), GO cX10_lays RX10 5 27 sc0 nI0 nJ0 some (f_X10_lays_L7 N K1 K1L KO29 n x2 x3 x4 σ) 7 (mkp 0 5 [(0, .ref 41), (1, .ref K1), (2, .int x2), (3, .int x3), (4, .int x4)]) [] σ
  | 0, x2, x3, x4, σ => GO.none
  | n + 1, x2, x3, x4, σ => by
    rcases hK1 with ⟨rfl, rfl⟩ | ⟨rfl, rfl⟩
    · exact (by refine GO.to (md_X10_lays N) (kl := [(29, fun vs st σ => kS0 st (kA 0 41 vs (kA 1 44 vs (kI 2 vs (fun x2 => kI 3 vs (fun x3 => KO29 x2 x3 σ)))))), (7, fun vs st σ => kS0 st (kA 0 41 vs (kA 1 44 vs (kI 2 vs (fun x2 => kI 3 vs (fun x3 => kI 4 vs (fun x4 => f_X10_lays_L7 N 44 96 KO29 n x2 x3 x4 σ)))))))]) (List.forall_mem_cons.mpr ⟨fun vs st σ => go_kS0 (go_kA (fun h0 => go_kA (fun h1 => go_kI (fun x2 h2 => go_kI (fun x3 h3 => GO.pat [(0, .ref 41), (1, .ref 44), (2, .int x2), (3, .int x3)] ⟨h0, h1, h2, h3, trivial⟩ (hKO29 x2 x3 σ)))))), List.forall_mem_cons.mpr ⟨fun vs st σ => go_kS0 (go_kA (fun h0 => go_kA (fun h1 => go_kI (fun x2 h2 => go_kI (fun x3 h3 => go_kI (fun x4 h4 => GO.pat [(0, .ref 41), (1, .ref 44), (2, .int x2), (3, .int x3), (4, .int x4)] ⟨h0, h1, h2, h3, h4, trivial⟩ (g_X10_lays_L7 N 44 96 (Or.inl ⟨rfl, rfl⟩) KO29 hKO29 n x2 x3 x4 σ))))))), (fun _ z => absurd z List.not_mem_nil)⟩⟩) 30 ?_ ?_ <;> rfl)
    · exact (by refine GO.to (md_X10_lays N) (kl := [(29, fun vs st σ => kS0 st (kA 0 41 vs (kA 1 63 vs (kI 2 vs (fun x2 => kI 3 vs (fun x3 => KO29 x2 x3 σ)))))), (7, fun vs st σ => kS0 st (kA 0 41 vs (kA 1 63 vs (kI 2 vs (fun x2 => kI 3 vs (fun x3 => kI 4 vs (fun x4 => f_X10_lays_L7 N 63 8 KO29 n x2 x3 x4 σ)))))))]) (List.forall_mem_cons.mpr ⟨fun vs st σ => go_kS0 (go_kA (fun h0 => go_kA (fun h1 => go_kI (fun x2 h2 => go_kI (fun x3 h3 => GO.pat [(0, .ref 41), (1, .ref 63), (2, .int x2), (3, .int x3)] ⟨h0, h1, h2, h3, trivial⟩ (hKO29 x2 x3 σ)))))), List.forall_mem_cons.mpr ⟨fun vs st σ => go_kS0 (go_kA (fun h0 => go_kA (fun h1 => go_kI (fun x2 h2 => go_kI (fun x3 h3 => go_kI (fun x4 h4 => GO.pat [(0, .ref 41), (1, .ref 63), (2, .int x2), (3, .int x3), (4, .int x4)] ⟨h0, h1, h2, h3, h4, trivial⟩ (g_X10_lays_L7 N 63 8 (Or.inr ⟨rfl, rfl⟩) KO29 hKO29 n x2 x3 x4 σ))))))), (fun _ z => absurd z List.not_mem_nil)⟩⟩) 30 ?_ ?_ <;> rfl)
set_option maxRecDepth 200000 in
theorem g_X10_lays_J29 (N : Nat) (K1 K1L : Nat) (hK1 : (K1 = 44 ∧ K1L = 96) ∨ (K1 = 63 ∧ K1L = 8)) (x2 : Int32) (x3 : Int32) (σ : Wd) : GO cX10_lays RX10 5 27 sc0 nI0 nJ0 some (f_X10_lays_J29 N K1 K1L x2 x3 σ) 29 (mkp 0 5 [(0, .ref 41), (1, .ref K1), (2, .int x2), (3, .int x3)]) [] σ := by
  rcases hK1 with ⟨rfl, rfl⟩ | ⟨rfl, rfl⟩
  · exact (by refine GO.to (md_X10_lays N) (kl := []) ((fun _ z => absurd z List.not_mem_nil)) 30 ?_ ?_ <;> rfl)
  · exact (by refine GO.to (md_X10_lays N) (kl := []) ((fun _ z => absurd z List.not_mem_nil)) 30 ?_ ?_ <;> rfl)
set_option maxRecDepth 200000 in
theorem C_X10_lays (N : Nat) : CTV 27 yX10_lays cX10_lays 5 none (a_X10_lays N) := by
  refine CTV.of (own := RX10) (by decide) rfl (fun as σ r h => ?_)
  unfold a_X10_lays at h
  rcases kSE_s h with ⟨r0, rfl, h0⟩ | hn
  ·
    rcases kSE_s h0 with ⟨r1, rfl, h1⟩ | h0n
    ·
      obtain ⟨b2, r2, rfl, h2⟩ := kSI_s h1
      obtain ⟨b3, r3, rfl, h3⟩ := kSI_s h2
      obtain ⟨rfl, h9⟩ := kS0_s h3
      exact ⟨Nat.le_of_ble_eq_true rfl, by refine GO.to (md_X10_lays N) (kl := [(7, fun vs st σ => kS0 st (kA 0 41 vs (kA 1 44 vs (kI 2 vs (fun x2 => kI 3 vs (fun x3 => kI 4 vs (fun x4 => f_X10_lays_L7 N 44 96 (f_X10_lays_J29 N 44 96) N x2 x3 x4 σ)))))))]) (List.forall_mem_cons.mpr ⟨fun vs st σ => go_kS0 (go_kA (fun h0 => go_kA (fun h1 => go_kI (fun x2 h2 => go_kI (fun x3 h3 => go_kI (fun x4 h4 => GO.pat [(0, .ref 41), (1, .ref 44), (2, .int x2), (3, .int x3), (4, .int x4)] ⟨h0, h1, h2, h3, h4, trivial⟩ (g_X10_lays_L7 N 44 96 (Or.inl ⟨rfl, rfl⟩) (f_X10_lays_J29 N 44 96) (g_X10_lays_J29 N 44 96 (Or.inl ⟨rfl, rfl⟩)) N x2 x3 x4 σ))))))), (fun _ z => absurd z List.not_mem_nil)⟩) 30 ?_ ?_ <;> rfl⟩
    rcases kSE_s h0n with ⟨r1, rfl, h1⟩ | h0nn
    ·
      obtain ⟨b2, r2, rfl, h2⟩ := kSI_s h1
      obtain ⟨b3, r3, rfl, h3⟩ := kSI_s h2
      obtain ⟨rfl, h9⟩ := kS0_s h3
      exact ⟨Nat.le_of_ble_eq_true rfl, by refine GO.to (md_X10_lays N) (kl := [(7, fun vs st σ => kS0 st (kA 0 41 vs (kA 1 63 vs (kI 2 vs (fun x2 => kI 3 vs (fun x3 => kI 4 vs (fun x4 => f_X10_lays_L7 N 63 8 (f_X10_lays_J29 N 63 8) N x2 x3 x4 σ)))))))]) (List.forall_mem_cons.mpr ⟨fun vs st σ => go_kS0 (go_kA (fun h0 => go_kA (fun h1 => go_kI (fun x2 h2 => go_kI (fun x3 h3 => go_kI (fun x4 h4 => GO.pat [(0, .ref 41), (1, .ref 63), (2, .int x2), (3, .int x3), (4, .int x4)] ⟨h0, h1, h2, h3, h4, trivial⟩ (g_X10_lays_L7 N 63 8 (Or.inr ⟨rfl, rfl⟩) (f_X10_lays_J29 N 63 8) (g_X10_lays_J29 N 63 8 (Or.inr ⟨rfl, rfl⟩)) N x2 x3 x4 σ))))))), (fun _ z => absurd z List.not_mem_nil)⟩) 30 ?_ ?_ <;> rfl⟩
    cases h0nn
  cases hn
def T_X10_laysPlan : List (Nat × Ent) := [(0, .aload_n 0, 1, []), (1, .aload_n 0, 2, []), (2, .getfield 18, 5, []), (5, .bipush 8, 7, []), (7, .iload_n 1, 8, []), (8, .imul, 9, []), (9, .aload_n 0, 10, []), (10, .getfield 21, 13, []), (13, .iload_n 1, 14, []), (14, .iaload, 15, []), (15, .invokevirtual 252, 18, []), (18, .return_, 19, [])]
set_option maxRecDepth 200000 in
theorem tc_X10_laysPlan : T_X10_laysPlan.all (chk cX10_laysPlan) = true := by decide +kernel
def f_X10_laysPlan (N : Nat) (a1 : Int32) (σ : Wd) : Option Wd :=
  (xld σ 45 12 a1).bind fun v1 => (f_X10_lays N 44 96 (8 * a1) v1 σ).bind fun σ2 => some σ2
def a_X10_laysPlan (N : Nat) : List Value → Wd → Option Wd := fun as σ => kSE 41 as (fun r0 => kSI r0 (fun b1 r1 => kS0 r1 (f_X10_laysPlan N b1 σ))) (none)
set_option maxRecDepth 200000 in
theorem k_X10_252 : calchk RX10 252 4 10 yX10_lays cX10_lays 5 none = true := by decide +kernel
def ct_X10_laysPlan (N : Nat) : List (Nat × Cal) := [(252, 4, 10, .inr (.inr (a_X10_lays N)))]
set_option maxRecDepth 200000 in
theorem md_X10_laysPlan (N : Nat) : MDOK T_X10_laysPlan ft_X10 lt_X10 (ct_X10_laysPlan N) cX10_laysPlan RX10 28 := ⟨tc_X10_laysPlan, fc_X10, lc_X10, List.forall_mem_cons.mpr ⟨Or.inl ⟨yX10_lays, cX10_lays, 5, none, 27, k_X10_252, Nat.le_of_ble_eq_true rfl, C_X10_lays N⟩, (fun _ z => absurd z List.not_mem_nil)⟩⟩
set_option maxRecDepth 200000 in
theorem C_X10_laysPlan (N : Nat) : CTV 28 yX10_laysPlan cX10_laysPlan 2 none (a_X10_laysPlan N) := by
  refine CTV.of (own := RX10) (by decide) rfl (fun as σ r h => ?_)
  unfold a_X10_laysPlan at h
  rcases kSE_s h with ⟨r0, rfl, h0⟩ | hn
  ·
    obtain ⟨b1, r1, rfl, h1⟩ := kSI_s h0
    obtain ⟨rfl, h9⟩ := kS0_s h1
    exact ⟨Nat.le_of_ble_eq_true rfl, by refine GO.to (md_X10_laysPlan N) (kl := []) ((fun _ z => absurd z List.not_mem_nil)) 17 ?_ ?_ <;> rfl⟩
  cases hn
def T_X10_judges : List (Nat × Ent) := [(0, .aload_n 0, 1, []), (1, .aload_n 0, 2, []), (2, .getfield 75, 5, []), (5, .iconst 0, 6, []), (6, .iload_n 1, 7, []), (7, .invokevirtual 252, 10, []), (10, .aload_n 0, 11, []), (11, .invokevirtual 266, 14, []), (14, .istore_n 3, 15, []), (15, .aload_n 0, 16, []), (16, .iconst (-1), 17, []), (17, .iconst 1, 18, []), (18, .invokevirtual 263, 21, []), (21, .istore 4, 23, []), (23, .aload_n 0, 24, []), (24, .dup, 25, []), (25, .getfield 301, 28, []), (28, .iload_n 3, 29, []), (29, .iload_n 2, 30, []), (30, .if_icmp .gt 7, 33, [37]), (33, .iconst 1, 34, []), (34, .goto 4, 37, [38]), (37, .iconst 0, 38, []), (38, .iadd, 39, []), (39, .putfield 301, 42, []), (42, .iload_n 3, 43, []), (43, .iload_n 2, 44, []), (44, .if_icmp .gt 64, 47, [108]), (47, .aload_n 0, 48, []), (48, .getfield 304, 51, []), (51, .ifCond .eq 12, 54, [63]), (54, .iload 4, 56, []), (56, .aload_n 0, 57, []), (57, .getfield 307, 60, []), (60, .if_icmp .ge 48, 63, [108]), (63, .aload_n 0, 64, []), (64, .iload_n 1, 65, []), (65, .putfield 304, 68, []), (68, .aload_n 0, 69, []), (69, .iload 4, 71, []), (71, .putfield 307, 74, []), (74, .aload_n 0, 75, []), (75, .iload_n 3, 76, []), (76, .putfield 310, 79, []), (79, .iconst 0, 80, []), (80, .istore 5, 82, []), (82, .iload 5, 84, []), (84, .iload_n 1, 85, []), (85, .if_icmp .ge 23, 88, [108]), (88, .aload_n 0, 89, []), (89, .getfield 78, 92, []), (92, .iload 5, 94, []), (94, .aload_n 0, 95, []), (95, .getfield 75, 98, []), (98, .iload 5, 100, []), (100, .iaload, 101, []), (101, .iastore, 102, []), (102, .iinc 5 1, 105, []), (105, .goto (-23), 108, [82]), (108, .return_, 109, [])]
set_option maxRecDepth 200000 in
theorem tc_X10_judges : T_X10_judges.all (chk cX10_judges) = true := by decide +kernel
def f_X10_judges_J108 (N : Nat) (σ : Wd) : Option Wd :=
  some σ
def f_X10_judges_L82 (N : Nat) (KO108 : Wd → Option Wd) : Nat → Int32 → Int32 → Wd → Option Wd
  | 0, _, _, _ => none
  | n + 1, x1, x5, σ => if x1 ≤ x5 then (KO108 σ) else ((xld σ 63 8 x5).bind fun v8 => (xst σ 64 8 x5 v8).bind fun σ9 => f_X10_judges_L82 N KO108 n x1 (x5 + 1) σ9)
def f_X10_judges_J63 (N : Nat) (x1 : Int32) (x3 : Int32) (x4 : Int32) (σ : Wd) : Option Wd :=
  let σ5 : Wd := sF σ 41 35 x1
  let σ6 : Wd := sF σ5 41 36 x4
  let σ7 : Wd := sF σ6 41 37 x3
  f_X10_judges_L82 N (f_X10_judges_J108 N) N x1 0 σ7
def f_X10_judges_J38 (N : Nat) (x1 : Int32) (x2 : Int32) (x3 : Int32) (x4 : Int32) (y1 : Int32) (y2 : Int32) (σ : Wd) : Option Wd :=
  let σ4 : Wd := sF σ 41 38 (y1 + y2)
  if x2 < x3 then (f_X10_judges_J108 N σ4) else (if (σ4.1 41 35) = 0 then (f_X10_judges_J63 N x1 x3 x4 σ4) else (if (σ4.1 41 36) ≤ x4 then (f_X10_judges_J108 N σ4) else (f_X10_judges_J63 N x1 x3 x4 σ4)))
def f_X10_judges (N : Nat) (a1 : Int32) (a2 : Int32) (σ : Wd) : Option Wd :=
  (f_X10_lays N 63 8 0 a1 σ).bind fun σ1 => (f_X10_lastOut N σ1).bind fun p2 => (f_X10_manyUsed N (-1) 1 p2.2).bind fun p3 => if a2 < p2.1 then (f_X10_judges_J38 N a1 a2 p2.1 p3.1 (p3.2.1 41 38) 0 p3.2) else (f_X10_judges_J38 N a1 a2 p2.1 p3.1 (p3.2.1 41 38) 1 p3.2)
def a_X10_judges (N : Nat) : List Value → Wd → Option Wd := fun as σ => kSE 41 as (fun r0 => kSI r0 (fun b1 r1 => kSI r1 (fun b2 r2 => kS0 r2 (f_X10_judges N b1 b2 σ)))) (none)
set_option maxRecDepth 200000 in
theorem k_X10_266 : calchk RX10 266 1 10 yX10_lastOut cX10_lastOut 3 (some .int) = true := by decide +kernel
set_option maxRecDepth 200000 in
theorem k_X10_263 : calchk RX10 263 3 10 yX10_manyUsed cX10_manyUsed 5 (some .int) = true := by decide +kernel
def ct_X10_judges (N : Nat) : List (Nat × Cal) := [(252, 4, 10, .inr (.inr (a_X10_lays N))), (266, 1, 10, .inl (a_X10_lastOut N)), (263, 3, 10, .inl (a_X10_manyUsed N))]
set_option maxRecDepth 200000 in
theorem md_X10_judges (N : Nat) : MDOK T_X10_judges ft_X10 lt_X10 (ct_X10_judges N) cX10_judges RX10 28 := ⟨tc_X10_judges, fc_X10, lc_X10, List.forall_mem_cons.mpr ⟨Or.inl ⟨yX10_lays, cX10_lays, 5, none, 27, k_X10_252, Nat.le_of_ble_eq_true rfl, C_X10_lays N⟩, List.forall_mem_cons.mpr ⟨Or.inl ⟨yX10_lastOut, cX10_lastOut, 3, (some .int), 1, k_X10_266, Nat.le_of_ble_eq_true rfl, C_X10_lastOut N⟩, List.forall_mem_cons.mpr ⟨Or.inl ⟨yX10_manyUsed, cX10_manyUsed, 5, (some .int), 1, k_X10_263, Nat.le_of_ble_eq_true rfl, C_X10_manyUsed N⟩, (fun _ z => absurd z List.not_mem_nil)⟩⟩⟩⟩
set_option maxRecDepth 200000 in
theorem g_X10_judges_J108 (N : Nat) (σ : Wd) : GO cX10_judges RX10 6 28 sc0 nI0 nJ0 some (f_X10_judges_J108 N σ) 108 (mkp 0 6 []) [] σ := by
  exact (by refine GO.to (md_X10_judges N) (kl := []) ((fun _ z => absurd z List.not_mem_nil)) 65 ?_ ?_ <;> rfl)
set_option maxRecDepth 200000 in
theorem g_X10_judges_L82 (N : Nat) (KO108 : Wd → Option Wd) (hKO108 : ∀ (σ : Wd), GO cX10_judges RX10 6 28 sc0 nI0 nJ0 some (KO108 σ) 108 (mkp 0 6 []) [] σ) : ∀ (n : Nat), ∀ (x1 : Int32) (x5 : Int32) (σ : Wd), GO cX10_judges RX10 6 28 sc0 nI0 nJ0 some (f_X10_judges_L82 N KO108 n x1 x5 σ) 82 (mkp 0 6 [(0, .ref 41), (1, .int x1), (5, .int x5)]) [] σ
  | 0, x1, x5, σ => GO.none
  | n + 1, x1, x5, σ => by
    exact (by refine GO.to (md_X10_judges N) (kl := [(108, fun vs st σ => kS0 st (KO108 σ)), (82, fun vs st σ => kS0 st (kA 0 41 vs (kI 1 vs (fun x1 => kI 5 vs (fun x5 => f_X10_judges_L82 N KO108 n x1 x5 σ)))))]) (List.forall_mem_cons.mpr ⟨fun vs st σ => go_kS0 (GO.pat [] trivial (hKO108 σ)), List.forall_mem_cons.mpr ⟨fun vs st σ => go_kS0 (go_kA (fun h0 => go_kI (fun x1 h1 => go_kI (fun x5 h5 => GO.pat [(0, .ref 41), (1, .int x1), (5, .int x5)] ⟨h0, h1, h5, trivial⟩ (g_X10_judges_L82 N KO108 hKO108 n x1 x5 σ))))), (fun _ z => absurd z List.not_mem_nil)⟩⟩) 65 ?_ ?_ <;> rfl)
set_option maxRecDepth 200000 in
theorem g_X10_judges_J63 (N : Nat) (x1 : Int32) (x3 : Int32) (x4 : Int32) (σ : Wd) : GO cX10_judges RX10 6 28 sc0 nI0 nJ0 some (f_X10_judges_J63 N x1 x3 x4 σ) 63 (mkp 0 6 [(0, .ref 41), (1, .int x1), (3, .int x3), (4, .int x4)]) [] σ := by
  exact (by refine GO.to (md_X10_judges N) (kl := [(82, fun vs st σ => kS0 st (kA 0 41 vs (kI 1 vs (fun x1 => kI 5 vs (fun x5 => f_X10_judges_L82 N (f_X10_judges_J108 N) N x1 x5 σ)))))]) (List.forall_mem_cons.mpr ⟨fun vs st σ => go_kS0 (go_kA (fun h0 => go_kI (fun x1 h1 => go_kI (fun x5 h5 => GO.pat [(0, .ref 41), (1, .int x1), (5, .int x5)] ⟨h0, h1, h5, trivial⟩ (g_X10_judges_L82 N (f_X10_judges_J108 N) (g_X10_judges_J108 N) N x1 x5 σ))))), (fun _ z => absurd z List.not_mem_nil)⟩) 65 ?_ ?_ <;> rfl)
set_option maxRecDepth 200000 in
theorem g_X10_judges_J38 (N : Nat) (x1 : Int32) (x2 : Int32) (x3 : Int32) (x4 : Int32) (y1 : Int32) (y2 : Int32) (σ : Wd) : GO cX10_judges RX10 6 28 sc0 nI0 nJ0 some (f_X10_judges_J38 N x1 x2 x3 x4 y1 y2 σ) 38 (mkp 0 6 [(0, .ref 41), (1, .int x1), (2, .int x2), (3, .int x3), (4, .int x4)]) [.int y2, .int y1, .ref 41] σ := by
  exact (by refine GO.to (md_X10_judges N) (kl := [(108, fun vs st σ => kS0 st (f_X10_judges_J108 N σ)), (63, fun vs st σ => kS0 st (kA 0 41 vs (kI 1 vs (fun x1 => kI 3 vs (fun x3 => kI 4 vs (fun x4 => f_X10_judges_J63 N x1 x3 x4 σ))))))]) (List.forall_mem_cons.mpr ⟨fun vs st σ => go_kS0 (GO.pat [] trivial (g_X10_judges_J108 N σ)), List.forall_mem_cons.mpr ⟨fun vs st σ => go_kS0 (go_kA (fun h0 => go_kI (fun x1 h1 => go_kI (fun x3 h3 => go_kI (fun x4 h4 => GO.pat [(0, .ref 41), (1, .int x1), (3, .int x3), (4, .int x4)] ⟨h0, h1, h3, h4, trivial⟩ (g_X10_judges_J63 N x1 x3 x4 σ)))))), (fun _ z => absurd z List.not_mem_nil)⟩⟩) 65 ?_ ?_ <;> rfl)
set_option maxRecDepth 200000 in
theorem C_X10_judges (N : Nat) : CTV 28 yX10_judges cX10_judges 6 none (a_X10_judges N) := by
  refine CTV.of (own := RX10) (by decide) rfl (fun as σ r h => ?_)
  unfold a_X10_judges at h
  rcases kSE_s h with ⟨r0, rfl, h0⟩ | hn
  ·
    obtain ⟨b1, r1, rfl, h1⟩ := kSI_s h0
    obtain ⟨b2, r2, rfl, h2⟩ := kSI_s h1
    obtain ⟨rfl, h9⟩ := kS0_s h2
    exact ⟨Nat.le_of_ble_eq_true rfl, by refine GO.to (md_X10_judges N) (kl := [(38, fun vs st σ => kStaii 41 st (fun y1 y2 => kA 0 41 vs (kI 1 vs (fun x1 => kI 2 vs (fun x2 => kI 3 vs (fun x3 => kI 4 vs (fun x4 => f_X10_judges_J38 N x1 x2 x3 x4 y1 y2 σ)))))))]) (List.forall_mem_cons.mpr ⟨fun vs st σ => go_kStaii (fun y1 y2 => go_kA (fun h0 => go_kI (fun x1 h1 => go_kI (fun x2 h2 => go_kI (fun x3 h3 => go_kI (fun x4 h4 => GO.pat [(0, .ref 41), (1, .int x1), (2, .int x2), (3, .int x3), (4, .int x4)] ⟨h0, h1, h2, h3, h4, trivial⟩ (g_X10_judges_J38 N x1 x2 x3 x4 y1 y2 σ))))))), (fun _ z => absurd z List.not_mem_nil)⟩) 65 ?_ ?_ <;> rfl⟩
  cases hn
def T_X10_gates : List (Nat × Ent) := [(0, .aload_n 0, 1, []), (1, .iload_n 1, 2, []), (2, .invokevirtual 163, 5, []), (5, .ifCond .eq 17, 8, [22]), (8, .iload_n 2, 9, []), (9, .i2l, 10, []), (10, .ldc2_w 255, 13, []), (13, .ldc2_w 182, 16, []), (16, .invokestatic 104, 19, []), (19, .ifCond .ne 5, 22, [24]), (22, .iconst (-1), 23, []), (23, .ireturn, 24, []), (24, .aload_n 0, 25, []), (25, .iload_n 1, 26, []), (26, .invokevirtual 257, 29, []), (29, .aload_n 0, 30, []), (30, .iload_n 1, 31, []), (31, .invokevirtual 260, 34, []), (34, .aload_n 0, 35, []), (35, .iload_n 2, 36, []), (36, .iconst 1, 37, []), (37, .invokevirtual 263, 40, []), (40, .ireturn, 41, [])]
set_option maxRecDepth 200000 in
theorem tc_X10_gates : T_X10_gates.all (chk cX10_gates) = true := by decide +kernel
def f_X10_gates (N : Nat) (a1 : Int32) (a2 : Int32) (σ : Wd) : Option (Int32 × Wd) :=
  (f_X10_isPlan N a1 σ).bind fun p1 => if p1.1 = 0 then (some ((-1), p1.2)) else ((f_X10_in N (Int32.toInt64 a2) (-1) 3 p1.2).bind fun p2 => if p2.1 = 0 then (some ((-1), p2.2)) else ((f_X10_knows N a1 p2.2).bind fun σ3 => (f_X10_laysPlan N a1 σ3).bind fun σ4 => (f_X10_manyUsed N a2 1 σ4).bind fun p5 => some (p5.1, p5.2)))
def a_X10_gates (N : Nat) : List Value → Wd → Option (Int32 × Wd) := fun as σ => kSE 41 as (fun r0 => kSI r0 (fun b1 r1 => kSI r1 (fun b2 r2 => kS0 r2 (f_X10_gates N b1 b2 σ)))) (none)
set_option maxRecDepth 200000 in
theorem k_X10_257 : calchk RX10 257 2 10 yX10_knows cX10_knows 4 none = true := by decide +kernel
set_option maxRecDepth 200000 in
theorem k_X10_260 : calchk RX10 260 2 10 yX10_laysPlan cX10_laysPlan 2 none = true := by decide +kernel
def ct_X10_gates (N : Nat) : List (Nat × Cal) := [(163, 2, 10, .inl (a_X10_isPlan N)), (104, 3, 0, .inl (a_X10_in N)), (257, 2, 10, .inr (.inr (a_X10_knows N))), (260, 2, 10, .inr (.inr (a_X10_laysPlan N))), (263, 3, 10, .inl (a_X10_manyUsed N))]
set_option maxRecDepth 200000 in
theorem md_X10_gates (N : Nat) : MDOK T_X10_gates ft_X10 lt_X10 (ct_X10_gates N) cX10_gates RX10 29 := ⟨tc_X10_gates, fc_X10, lc_X10, List.forall_mem_cons.mpr ⟨Or.inl ⟨yX10_isPlan, cX10_isPlan, 2, (some .boolean), 2, k_X10_163, Nat.le_of_ble_eq_true rfl, C_X10_isPlan N⟩, List.forall_mem_cons.mpr ⟨Or.inl ⟨yX10_in, cX10_in, 6, (some .boolean), 1, k_X10_104, Nat.le_of_ble_eq_true rfl, C_X10_in N⟩, List.forall_mem_cons.mpr ⟨Or.inl ⟨yX10_knows, cX10_knows, 4, none, 3, k_X10_257, Nat.le_of_ble_eq_true rfl, C_X10_knows N⟩, List.forall_mem_cons.mpr ⟨Or.inl ⟨yX10_laysPlan, cX10_laysPlan, 2, none, 28, k_X10_260, Nat.le_of_ble_eq_true rfl, C_X10_laysPlan N⟩, List.forall_mem_cons.mpr ⟨Or.inl ⟨yX10_manyUsed, cX10_manyUsed, 5, (some .int), 1, k_X10_263, Nat.le_of_ble_eq_true rfl, C_X10_manyUsed N⟩, (fun _ z => absurd z List.not_mem_nil)⟩⟩⟩⟩⟩⟩
set_option maxRecDepth 200000 in
theorem C_X10_gates (N : Nat) : CTI 29 yX10_gates cX10_gates 3 (some .int) (a_X10_gates N) := by
  refine CTI.of (own := RX10) (by decide) rfl (fun as σ r h => ?_)
  unfold a_X10_gates at h
  rcases kSE_s h with ⟨r0, rfl, h0⟩ | hn
  ·
    obtain ⟨b1, r1, rfl, h1⟩ := kSI_s h0
    obtain ⟨b2, r2, rfl, h2⟩ := kSI_s h1
    obtain ⟨rfl, h9⟩ := kS0_s h2
    exact ⟨Nat.le_of_ble_eq_true rfl, by refine GO.to (md_X10_gates N) (kl := []) ((fun _ z => absurd z List.not_mem_nil)) 28 ?_ ?_ <;> rfl⟩
  cases hn
def T_X10_latest : List (Nat × Ent) := [(0, .aload_n 0, 1, []), (1, .iload_n 1, 2, []), (2, .invokevirtual 163, 5, []), (5, .ifCond .eq 20, 8, [25]), (8, .iload_n 2, 9, []), (9, .i2l, 10, []), (10, .ldc2_w 255, 13, []), (13, .aload_n 0, 14, []), (14, .iload_n 1, 15, []), (15, .invokevirtual 167, 18, []), (18, .i2l, 19, []), (19, .invokestatic 104, 22, []), (22, .ifCond .ne 5, 25, [27]), (25, .iconst (-1), 26, []), (26, .ireturn, 27, []), (27, .aload_n 0, 28, []), (28, .iload_n 1, 29, []), (29, .invokevirtual 257, 32, []), (32, .aload_n 0, 33, []), (33, .iload_n 1, 34, []), (34, .invokevirtual 260, 37, []), (37, .iload_n 2, 38, []), (38, .ifCond .ge 10, 41, [48]), (41, .aload_n 0, 42, []), (42, .invokevirtual 266, 45, []), (45, .goto 14, 48, [59]), (48, .aload_n 0, 49, []), (49, .getfield 57, 52, []), (52, .aload_n 0, 53, []), (53, .getfield 66, 56, []), (56, .iload_n 2, 57, []), (57, .iaload, 58, []), (58, .iaload, 59, []), (59, .ireturn, 60, [])]
set_option maxRecDepth 200000 in
theorem tc_X10_latest : T_X10_latest.all (chk cX10_latest) = true := by decide +kernel
def f_X10_latest (N : Nat) (a1 : Int32) (a2 : Int32) (σ : Wd) : Option (Int32 × Wd) :=
  (f_X10_isPlan N a1 σ).bind fun p1 => if p1.1 = 0 then (some ((-1), p1.2)) else ((f_X10_width N a1 p1.2).bind fun p2 => (f_X10_in N (Int32.toInt64 a2) (-1) (Int32.toInt64 p2.1) p2.2).bind fun p3 => if p3.1 = 0 then (some ((-1), p3.2)) else ((f_X10_knows N a1 p3.2).bind fun σ4 => (f_X10_laysPlan N a1 σ4).bind fun σ5 => if 0 ≤ a2 then ((xld σ5 60 13 a2).bind fun v6 => (xld σ5 57 2048 v6).bind fun v7 => some (v7, σ5)) else ((f_X10_lastOut N σ5).bind fun p8 => some (p8.1, p8.2))))
def a_X10_latest (N : Nat) : List Value → Wd → Option (Int32 × Wd) := fun as σ => kSE 41 as (fun r0 => kSI r0 (fun b1 r1 => kSI r1 (fun b2 r2 => kS0 r2 (f_X10_latest N b1 b2 σ)))) (none)
def ct_X10_latest (N : Nat) : List (Nat × Cal) := [(163, 2, 10, .inl (a_X10_isPlan N)), (167, 2, 10, .inl (a_X10_width N)), (104, 3, 0, .inl (a_X10_in N)), (257, 2, 10, .inr (.inr (a_X10_knows N))), (260, 2, 10, .inr (.inr (a_X10_laysPlan N))), (266, 1, 10, .inl (a_X10_lastOut N))]
set_option maxRecDepth 200000 in
theorem md_X10_latest (N : Nat) : MDOK T_X10_latest ft_X10 lt_X10 (ct_X10_latest N) cX10_latest RX10 29 := ⟨tc_X10_latest, fc_X10, lc_X10, List.forall_mem_cons.mpr ⟨Or.inl ⟨yX10_isPlan, cX10_isPlan, 2, (some .boolean), 2, k_X10_163, Nat.le_of_ble_eq_true rfl, C_X10_isPlan N⟩, List.forall_mem_cons.mpr ⟨Or.inl ⟨yX10_width, cX10_width, 2, (some .int), 2, k_X10_167, Nat.le_of_ble_eq_true rfl, C_X10_width N⟩, List.forall_mem_cons.mpr ⟨Or.inl ⟨yX10_in, cX10_in, 6, (some .boolean), 1, k_X10_104, Nat.le_of_ble_eq_true rfl, C_X10_in N⟩, List.forall_mem_cons.mpr ⟨Or.inl ⟨yX10_knows, cX10_knows, 4, none, 3, k_X10_257, Nat.le_of_ble_eq_true rfl, C_X10_knows N⟩, List.forall_mem_cons.mpr ⟨Or.inl ⟨yX10_laysPlan, cX10_laysPlan, 2, none, 28, k_X10_260, Nat.le_of_ble_eq_true rfl, C_X10_laysPlan N⟩, List.forall_mem_cons.mpr ⟨Or.inl ⟨yX10_lastOut, cX10_lastOut, 3, (some .int), 1, k_X10_266, Nat.le_of_ble_eq_true rfl, C_X10_lastOut N⟩, (fun _ z => absurd z List.not_mem_nil)⟩⟩⟩⟩⟩⟩⟩
set_option maxRecDepth 200000 in
theorem C_X10_latest (N : Nat) : CTI 29 yX10_latest cX10_latest 3 (some .int) (a_X10_latest N) := by
  refine CTI.of (own := RX10) (by decide) rfl (fun as σ r h => ?_)
  unfold a_X10_latest at h
  rcases kSE_s h with ⟨r0, rfl, h0⟩ | hn
  ·
    obtain ⟨b1, r1, rfl, h1⟩ := kSI_s h0
    obtain ⟨b2, r2, rfl, h2⟩ := kSI_s h1
    obtain ⟨rfl, h9⟩ := kS0_s h2
    exact ⟨Nat.le_of_ble_eq_true rfl, by refine GO.to (md_X10_latest N) (kl := []) ((fun _ z => absurd z List.not_mem_nil)) 39 ?_ ?_ <;> rfl⟩
  cases hn
def T_X10_deep : List (Nat × Ent) := [(0, .aload_n 0, 1, []), (1, .iload_n 1, 2, []), (2, .invokevirtual 163, 5, []), (5, .ifCond .ne 5, 8, [10]), (8, .iconst (-1), 9, []), (9, .ireturn, 10, []), (10, .aload_n 0, 11, []), (11, .iload_n 1, 12, []), (12, .invokevirtual 257, 15, []), (15, .aload_n 0, 16, []), (16, .iload_n 1, 17, []), (17, .invokevirtual 260, 20, []), (20, .iconst 0, 21, []), (21, .istore_n 2, 22, []), (22, .aload_n 0, 23, []), (23, .invokevirtual 266, 26, []), (26, .istore_n 3, 27, []), (27, .iconst 0, 28, []), (28, .istore 4, 30, []), (30, .iload 4, 32, []), (32, .aload_n 0, 33, []), (33, .getfield 236, 36, []), (36, .if_icmp .ge 58, 39, [94]), (39, .aload_n 0, 40, []), (40, .getfield 57, 43, []), (43, .aload_n 0, 44, []), (44, .getfield 66, 47, []), (47, .iload 4, 49, []), (49, .iaload, 50, []), (50, .iaload, 51, []), (51, .iload_n 3, 52, []), (52, .if_icmp .ne 34, 55, [86]), (55, .aload_n 0, 56, []), (56, .getfield 63, 59, []), (59, .aload_n 0, 60, []), (60, .getfield 66, 63, []), (63, .iload 4, 65, []), (65, .iaload, 66, []), (66, .iaload, 67, []), (67, .iload_n 2, 68, []), (68, .if_icmp .le 18, 71, [86]), (71, .aload_n 0, 72, []), (72, .getfield 63, 75, []), (75, .aload_n 0, 76, []), (76, .getfield 66, 79, []), (79, .iload 4, 81, []), (81, .iaload, 82, []), (82, .iaload, 83, []), (83, .goto 4, 86, [87]), (86, .iload_n 2, 87, []), (87, .istore_n 2, 88, []), (88, .iinc 4 1, 91, []), (91, .goto (-61), 94, [30]), (94, .iload_n 2, 95, []), (95, .ireturn, 96, [])]
set_option maxRecDepth 200000 in
theorem tc_X10_deep : T_X10_deep.all (chk cX10_deep) = true := by decide +kernel
def f_X10_deep_L30 (N : Nat) (KO94 : Int32 → Wd → Option (Int32 × Wd)) : Nat → Int32 → Int32 → Int32 → Wd → Option (Int32 × Wd)
  | 0, _, _, _, _ => none
  | n + 1, x2, x3, x4, σ => if (σ.1 41 28) ≤ x4 then (KO94 x2 σ) else ((xld σ 60 13 x4).bind fun v5 => (xld σ 57 2048 v5).bind fun v6 => if v6 = x3 then ((xld σ 60 13 x4).bind fun v7 => (xld σ 59 2048 v7).bind fun v8 => if v8 ≤ x2 then (f_X10_deep_L30 N KO94 n x2 x3 (x4 + 1) σ) else ((xld σ 60 13 x4).bind fun v9 => (xld σ 59 2048 v9).bind fun v10 => f_X10_deep_L30 N KO94 n v10 x3 (x4 + 1) σ)) else (f_X10_deep_L30 N KO94 n x2 x3 (x4 + 1) σ))
def f_X10_deep_J94 (N : Nat) (x2 : Int32) (σ : Wd) : Option (Int32 × Wd) :=
  some (x2, σ)
def f_X10_deep (N : Nat) (a1 : Int32) (σ : Wd) : Option (Int32 × Wd) :=
  (f_X10_isPlan N a1 σ).bind fun p1 => if p1.1 = 0 then (some ((-1), p1.2)) else ((f_X10_knows N a1 p1.2).bind fun σ2 => (f_X10_laysPlan N a1 σ2).bind fun σ3 => (f_X10_lastOut N σ3).bind fun p4 => f_X10_deep_L30 N (f_X10_deep_J94 N) N 0 p4.1 0 p4.2)
def a_X10_deep (N : Nat) : List Value → Wd → Option (Int32 × Wd) := fun as σ => kSE 41 as (fun r0 => kSI r0 (fun b1 r1 => kS0 r1 (f_X10_deep N b1 σ))) (none)
def ct_X10_deep (N : Nat) : List (Nat × Cal) := [(163, 2, 10, .inl (a_X10_isPlan N)), (257, 2, 10, .inr (.inr (a_X10_knows N))), (260, 2, 10, .inr (.inr (a_X10_laysPlan N))), (266, 1, 10, .inl (a_X10_lastOut N))]
set_option maxRecDepth 200000 in
theorem md_X10_deep (N : Nat) : MDOK T_X10_deep ft_X10 lt_X10 (ct_X10_deep N) cX10_deep RX10 29 := ⟨tc_X10_deep, fc_X10, lc_X10, List.forall_mem_cons.mpr ⟨Or.inl ⟨yX10_isPlan, cX10_isPlan, 2, (some .boolean), 2, k_X10_163, Nat.le_of_ble_eq_true rfl, C_X10_isPlan N⟩, List.forall_mem_cons.mpr ⟨Or.inl ⟨yX10_knows, cX10_knows, 4, none, 3, k_X10_257, Nat.le_of_ble_eq_true rfl, C_X10_knows N⟩, List.forall_mem_cons.mpr ⟨Or.inl ⟨yX10_laysPlan, cX10_laysPlan, 2, none, 28, k_X10_260, Nat.le_of_ble_eq_true rfl, C_X10_laysPlan N⟩, List.forall_mem_cons.mpr ⟨Or.inl ⟨yX10_lastOut, cX10_lastOut, 3, (some .int), 1, k_X10_266, Nat.le_of_ble_eq_true rfl, C_X10_lastOut N⟩, (fun _ z => absurd z List.not_mem_nil)⟩⟩⟩⟩⟩
set_option maxRecDepth 200000 in
theorem g_X10_deep_L30 (N : Nat) (KO94 : Int32 → Wd → Option (Int32 × Wd)) (hKO94 : ∀ (x2 : Int32) (σ : Wd), GO cX10_deep RX10 5 29 sc0 rI nJ0 nV0 (KO94 x2 σ) 94 (mkp 0 5 [(2, .int x2)]) [] σ) : ∀ (n : Nat), ∀ (x2 : Int32) (x3 : Int32) (x4 : Int32) (σ : Wd), GO cX10_deep RX10 5 29 sc0 rI nJ0 nV0 (f_X10_deep_L30 N KO94 n x2 x3 x4 σ) 30 (mkp 0 5 [(0, .ref 41), (2, .int x2), (3, .int x3), (4, .int x4)]) [] σ
  | 0, x2, x3, x4, σ => GO.none
  | n + 1, x2, x3, x4, σ => by
    exact (by refine GO.to (md_X10_deep N) (kl := [(94, fun vs st σ => kS0 st (kI 2 vs (fun x2 => KO94 x2 σ))), (30, fun vs st σ => kS0 st (kA 0 41 vs (kI 2 vs (fun x2 => kI 3 vs (fun x3 => kI 4 vs (fun x4 => f_X10_deep_L30 N KO94 n x2 x3 x4 σ))))))]) (List.forall_mem_cons.mpr ⟨fun vs st σ => go_kS0 (go_kI (fun x2 h2 => GO.pat [(2, .int x2)] ⟨h2, trivial⟩ (hKO94 x2 σ))), List.forall_mem_cons.mpr ⟨fun vs st σ => go_kS0 (go_kA (fun h0 => go_kI (fun x2 h2 => go_kI (fun x3 h3 => go_kI (fun x4 h4 => GO.pat [(0, .ref 41), (2, .int x2), (3, .int x3), (4, .int x4)] ⟨h0, h2, h3, h4, trivial⟩ (g_X10_deep_L30 N KO94 hKO94 n x2 x3 x4 σ)))))), (fun _ z => absurd z List.not_mem_nil)⟩⟩) 60 ?_ ?_ <;> rfl)
set_option maxRecDepth 200000 in
theorem g_X10_deep_J94 (N : Nat) (x2 : Int32) (σ : Wd) : GO cX10_deep RX10 5 29 sc0 rI nJ0 nV0 (f_X10_deep_J94 N x2 σ) 94 (mkp 0 5 [(2, .int x2)]) [] σ := by
  exact (by refine GO.to (md_X10_deep N) (kl := []) ((fun _ z => absurd z List.not_mem_nil)) 60 ?_ ?_ <;> rfl)
set_option maxRecDepth 200000 in
theorem C_X10_deep (N : Nat) : CTI 29 yX10_deep cX10_deep 5 (some .int) (a_X10_deep N) := by
  refine CTI.of (own := RX10) (by decide) rfl (fun as σ r h => ?_)
  unfold a_X10_deep at h
  rcases kSE_s h with ⟨r0, rfl, h0⟩ | hn
  ·
    obtain ⟨b1, r1, rfl, h1⟩ := kSI_s h0
    obtain ⟨rfl, h9⟩ := kS0_s h1
    exact ⟨Nat.le_of_ble_eq_true rfl, by refine GO.to (md_X10_deep N) (kl := [(30, fun vs st σ => kS0 st (kA 0 41 vs (kI 2 vs (fun x2 => kI 3 vs (fun x3 => kI 4 vs (fun x4 => f_X10_deep_L30 N (f_X10_deep_J94 N) N x2 x3 x4 σ))))))]) (List.forall_mem_cons.mpr ⟨fun vs st σ => go_kS0 (go_kA (fun h0 => go_kI (fun x2 h2 => go_kI (fun x3 h3 => go_kI (fun x4 h4 => GO.pat [(0, .ref 41), (2, .int x2), (3, .int x3), (4, .int x4)] ⟨h0, h2, h3, h4, trivial⟩ (g_X10_deep_L30 N (f_X10_deep_J94 N) (g_X10_deep_J94 N) N x2 x3 x4 σ)))))), (fun _ z => absurd z List.not_mem_nil)⟩) 60 ?_ ?_ <;> rfl⟩
  cases hn
def T_X10_hangs : List (Nat × Ent) := [(0, .aload_n 0, 1, []), (1, .iload_n 1, 2, []), (2, .invokevirtual 163, 5, []), (5, .ifCond .ne 5, 8, [10]), (8, .iconst (-1), 9, []), (9, .ireturn, 10, []), (10, .aload_n 0, 11, []), (11, .iload_n 1, 12, []), (12, .invokevirtual 260, 15, []), (15, .aload_n 0, 16, []), (16, .invokevirtual 266, 19, []), (19, .istore_n 2, 20, []), (20, .iconst 0, 21, []), (21, .istore_n 3, 22, []), (22, .iload_n 3, 23, []), (23, .aload_n 0, 24, []), (24, .getfield 236, 27, []), (27, .if_icmp .ge 43, 30, [70]), (30, .aload_n 0, 31, []), (31, .getfield 54, 34, []), (34, .aload_n 0, 35, []), (35, .getfield 66, 38, []), (38, .iload_n 3, 39, []), (39, .iaload, 40, []), (40, .dup2, 41, []), (41, .iaload, 42, []), (42, .aload_n 0, 43, []), (43, .getfield 57, 46, []), (46, .aload_n 0, 47, []), (47, .getfield 66, 50, []), (50, .iload_n 3, 51, []), (51, .iaload, 52, []), (52, .iaload, 53, []), (53, .iload_n 2, 54, []), (54, .if_icmp .ne 7, 57, [61]), (57, .iconst 2, 58, []), (58, .goto 4, 61, [62]), (61, .iconst 0, 62, []), (62, .ior, 63, []), (63, .iastore, 64, []), (64, .iinc 3 1, 67, []), (67, .goto (-45), 70, [22]), (70, .aload_n 0, 71, []), (71, .getfield 192, 74, []), (74, .iconst 1, 75, []), (75, .isub, 76, []), (76, .istore_n 3, 77, []), (77, .iload_n 3, 78, []), (78, .bipush 27, 80, []), (80, .if_icmp .lt 113, 83, [193]), (83, .aload_n 0, 84, []), (84, .getfield 57, 87, []), (87, .iload_n 3, 88, []), (88, .iaload, 89, []), (89, .aload_n 0, 90, []), (90, .getfield 39, 93, []), (93, .aload_n 0, 94, []), (94, .getfield 45, 97, []), (97, .iload_n 3, 98, []), (98, .iaload, 99, []), (99, .iaload, 100, []), (100, .isub, 101, []), (101, .istore 4, 103, []), (103, .aload_n 0, 104, []), (104, .getfield 54, 107, []), (107, .aload_n 0, 108, []), (108, .getfield 48, 111, []), (111, .iload_n 3, 112, []), (112, .iaload, 113, []), (113, .dup2, 114, []), (114, .iaload, 115, []), (115, .aload_n 0, 116, []), (116, .getfield 57, 119, []), (119, .aload_n 0, 120, []), (120, .getfield 48, 123, []), (123, .iload_n 3, 124, []), (124, .iaload, 125, []), (125, .iaload, 126, []), (126, .iload 4, 128, []), (128, .if_icmp .ne 14, 131, [142]), (131, .aload_n 0, 132, []), (132, .getfield 54, 135, []), (135, .iload_n 3, 136, []), (136, .iaload, 137, []), (137, .iconst 2, 138, []), (138, .iand, 139, []), (139, .goto 4, 142, [143]), (142, .iconst 0, 143, []), (143, .ior, 144, []), (144, .iastore, 145, []), (145, .aload_n 0, 146, []), (146, .getfield 54, 149, []), (149, .aload_n 0, 150, []), (150, .getfield 51, 153, []), (153, .iload_n 3, 154, []), (154, .iaload, 155, []), (155, .dup2, 156, []), (156, .iaload, 157, []), (157, .aload_n 0, 158, []), (158, .getfield 57, 161, []), (161, .aload_n 0, 162, []), (162, .getfield 51, 165, []), (165, .iload_n 3, 166, []), (166, .iaload, 167, []), (167, .iaload, 168, []), (168, .iload 4, 170, []), (170, .if_icmp .ne 14, 173, [184]), (173, .aload_n 0, 174, []), (174, .getfield 54, 177, []), (177, .iload_n 3, 178, []), (178, .iaload, 179, []), (179, .iconst 2, 180, []), (180, .iand, 181, []), (181, .goto 4, 184, [185]), (184, .iconst 0, 185, []), (185, .ior, 186, []), (186, .iastore, 187, []), (187, .iinc 3 (-1), 190, []), (190, .goto (-113), 193, [77]), (193, .iconst 0, 194, []), (194, .istore_n 3, 195, []), (195, .iconst 0, 196, []), (196, .istore 4, 198, []), (198, .iload 4, 200, []), (200, .bipush 24, 202, []), (202, .if_icmp .gt 34, 205, [236]), (205, .iload_n 3, 206, []), (206, .aload_n 0, 207, []), (207, .getfield 54, 210, []), (210, .iload 4, 212, []), (212, .iaload, 213, []), (213, .iconst 1, 214, []), (214, .invokestatic 269, 217, []), (217, .ifCond .eq 10, 220, [227]), (220, .iconst 1, 221, []), (221, .iload 4, 223, []), (223, .ishl, 224, []), (224, .goto 4, 227, [228]), (227, .iconst 0, 228, []), (228, .ior, 229, []), (229, .istore_n 3, 230, []), (230, .iinc 4 1, 233, []), (233, .goto (-35), 236, [198]), (236, .iload_n 3, 237, []), (237, .ireturn, 238, [])]
set_option maxRecDepth 200000 in
theorem tc_X10_hangs : T_X10_hangs.all (chk cX10_hangs) = true := by decide +kernel
def f_X10_hangs_L22 (N : Nat) (KO70 : Wd → Option (Int32 × Wd)) : Nat → Int32 → Int32 → Wd → Option (Int32 × Wd)
  | 0, _, _, _ => none
  | n + 1, x2, x3, σ => if (σ.1 41 28) ≤ x3 then (KO70 σ) else ((xld σ 60 13 x3).bind fun v4 => (xld σ 56 2048 v4).bind fun v5 => (xld σ 60 13 x3).bind fun v6 => (xld σ 57 2048 v6).bind fun v7 => if v7 = x2 then ((xst σ 56 2048 v4 (v5 ||| (2 : Int32))).bind fun σ8 => f_X10_hangs_L22 N KO70 n x2 (x3 + 1) σ8) else ((xst σ 56 2048 v4 (v5 ||| (0 : Int32))).bind fun σ9 => f_X10_hangs_L22 N KO70 n x2 (x3 + 1) σ9))
def f_X10_hangs_J143 (N : Nat) (KB : Int32 → Wd → Option (Int32 × Wd)) (KO193 : Wd → Option (Int32 × Wd)) (x3 : Int32) (x4 : Int32) (y1 : Int32) (y2 : Int32) (y3 : Int32) (σ : Wd) : Option (Int32 × Wd) :=
  (xst σ 56 2048 y1 (y2 ||| y3)).bind fun σ18 => (xld σ18 55 2048 x3).bind fun v19 => (xld σ18 56 2048 v19).bind fun v20 => (xld σ18 55 2048 x3).bind fun v21 => (xld σ18 57 2048 v21).bind fun v22 => if v22 = x4 then ((xld σ18 56 2048 x3).bind fun v23 => (xst σ18 56 2048 v19 (v20 ||| (v23 &&& (2 : Int32)))).bind fun σ24 => KB (x3 + (-1)) σ24) else ((xst σ18 56 2048 v19 (v20 ||| (0 : Int32))).bind fun σ25 => KB (x3 + (-1)) σ25)
def f_X10_hangs_L77 (N : Nat) (KO193 : Wd → Option (Int32 × Wd)) : Nat → Int32 → Wd → Option (Int32 × Wd)
  | 0, _, _ => none
  | n + 1, x3, σ => if x3 < 27 then (KO193 σ) else ((xld σ 57 2048 x3).bind fun v10 => (xld σ 53 2048 x3).bind fun v11 => (xld σ 51 4 v11).bind fun v12 => (xld σ 54 2048 x3).bind fun v13 => (xld σ 56 2048 v13).bind fun v14 => (xld σ 54 2048 x3).bind fun v15 => (xld σ 57 2048 v15).bind fun v16 => if v16 = (v10 - v12) then ((xld σ 56 2048 x3).bind fun v17 => f_X10_hangs_J143 N (f_X10_hangs_L77 N KO193 n) KO193 x3 (v10 - v12) v13 v14 (v17 &&& (2 : Int32)) σ) else (f_X10_hangs_J143 N (f_X10_hangs_L77 N KO193 n) KO193 x3 (v10 - v12) v13 v14 0 σ))
def f_X10_hangs_L198 (N : Nat) (KO236 : Int32 → Wd → Option (Int32 × Wd)) : Nat → Int32 → Int32 → Wd → Option (Int32 × Wd)
  | 0, _, _, _ => none
  | n + 1, x3, x4, σ => if 24 < x4 then (KO236 x3 σ) else ((xld σ 56 2048 x4).bind fun v26 => (f_X10_has N v26 1 σ).bind fun p27 => if p27.1 = 0 then (f_X10_hangs_L198 N KO236 n (x3 ||| (0 : Int32)) (x4 + 1) p27.2) else (f_X10_hangs_L198 N KO236 n (x3 ||| (1 <<< (x4 &&& 31))) (x4 + 1) p27.2))
def f_X10_hangs_J236 (N : Nat) (x3 : Int32) (σ : Wd) : Option (Int32 × Wd) :=
  some (x3, σ)
def f_X10_hangs_J193 (N : Nat) (σ : Wd) : Option (Int32 × Wd) :=
  f_X10_hangs_L198 N (f_X10_hangs_J236 N) N 0 0 σ
def f_X10_hangs_J70 (N : Nat) (σ : Wd) : Option (Int32 × Wd) :=
  f_X10_hangs_L77 N (f_X10_hangs_J193 N) N ((σ.1 41 27) - 1) σ
def f_X10_hangs (N : Nat) (a1 : Int32) (σ : Wd) : Option (Int32 × Wd) :=
  (f_X10_isPlan N a1 σ).bind fun p1 => if p1.1 = 0 then (some ((-1), p1.2)) else ((f_X10_laysPlan N a1 p1.2).bind fun σ2 => (f_X10_lastOut N σ2).bind fun p3 => f_X10_hangs_L22 N (f_X10_hangs_J70 N) N p3.1 0 p3.2)
def a_X10_hangs (N : Nat) : List Value → Wd → Option (Int32 × Wd) := fun as σ => kSE 41 as (fun r0 => kSI r0 (fun b1 r1 => kS0 r1 (f_X10_hangs N b1 σ))) (none)
def ct_X10_hangs (N : Nat) : List (Nat × Cal) := [(163, 2, 10, .inl (a_X10_isPlan N)), (260, 2, 10, .inr (.inr (a_X10_laysPlan N))), (266, 1, 10, .inl (a_X10_lastOut N)), (269, 2, 0, .inl (a_X10_has N))]
set_option maxRecDepth 200000 in
theorem md_X10_hangs (N : Nat) : MDOK T_X10_hangs ft_X10 lt_X10 (ct_X10_hangs N) cX10_hangs RX10 29 := ⟨tc_X10_hangs, fc_X10, lc_X10, List.forall_mem_cons.mpr ⟨Or.inl ⟨yX10_isPlan, cX10_isPlan, 2, (some .boolean), 2, k_X10_163, Nat.le_of_ble_eq_true rfl, C_X10_isPlan N⟩, List.forall_mem_cons.mpr ⟨Or.inl ⟨yX10_laysPlan, cX10_laysPlan, 2, none, 28, k_X10_260, Nat.le_of_ble_eq_true rfl, C_X10_laysPlan N⟩, List.forall_mem_cons.mpr ⟨Or.inl ⟨yX10_lastOut, cX10_lastOut, 3, (some .int), 1, k_X10_266, Nat.le_of_ble_eq_true rfl, C_X10_lastOut N⟩, List.forall_mem_cons.mpr ⟨Or.inl ⟨yX10_has, cX10_has, 2, (some .boolean), 1, k_X10_269, Nat.le_of_ble_eq_true rfl, C_X10_has N⟩, (fun _ z => absurd z List.not_mem_nil)⟩⟩⟩⟩⟩
set_option maxRecDepth 200000 in
theorem g_X10_hangs_L22 (N : Nat) (KO70 : Wd → Option (Int32 × Wd)) (hKO70 : ∀ (σ : Wd), GO cX10_hangs RX10 5 29 sc0 rI nJ0 nV0 (KO70 σ) 70 (mkp 0 5 [(0, .ref 41)]) [] σ) : ∀ (n : Nat), ∀ (x2 : Int32) (x3 : Int32) (σ : Wd), GO cX10_hangs RX10 5 29 sc0 rI nJ0 nV0 (f_X10_hangs_L22 N KO70 n x2 x3 σ) 22 (mkp 0 5 [(0, .ref 41), (2, .int x2), (3, .int x3)]) [] σ
  | 0, x2, x3, σ => GO.none
  | n + 1, x2, x3, σ => by
    exact (by refine GO.to (md_X10_hangs N) (kl := [(70, fun vs st σ => kS0 st (kA 0 41 vs (KO70 σ))), (22, fun vs st σ => kS0 st (kA 0 41 vs (kI 2 vs (fun x2 => kI 3 vs (fun x3 => f_X10_hangs_L22 N KO70 n x2 x3 σ)))))]) (List.forall_mem_cons.mpr ⟨fun vs st σ => go_kS0 (go_kA (fun h0 => GO.pat [(0, .ref 41)] ⟨h0, trivial⟩ (hKO70 σ))), List.forall_mem_cons.mpr ⟨fun vs st σ => go_kS0 (go_kA (fun h0 => go_kI (fun x2 h2 => go_kI (fun x3 h3 => GO.pat [(0, .ref 41), (2, .int x2), (3, .int x3)] ⟨h0, h2, h3, trivial⟩ (g_X10_hangs_L22 N KO70 hKO70 n x2 x3 σ))))), (fun _ z => absurd z List.not_mem_nil)⟩⟩) 150 ?_ ?_ <;> rfl)
set_option maxRecDepth 200000 in
theorem g_X10_hangs_J143 (N : Nat) (KB : Int32 → Wd → Option (Int32 × Wd)) (hKB : ∀ (x3 : Int32) (σ : Wd), GO cX10_hangs RX10 5 29 sc0 rI nJ0 nV0 (KB x3 σ) 77 (mkp 0 5 [(0, .ref 41), (3, .int x3)]) [] σ) (KO193 : Wd → Option (Int32 × Wd)) (hKO193 : ∀ (σ : Wd), GO cX10_hangs RX10 5 29 sc0 rI nJ0 nV0 (KO193 σ) 193 (mkp 0 5 [(0, .ref 41)]) [] σ) (x3 : Int32) (x4 : Int32) (y1 : Int32) (y2 : Int32) (y3 : Int32) (σ : Wd) : GO cX10_hangs RX10 5 29 sc0 rI nJ0 nV0 (f_X10_hangs_J143 N KB KO193 x3 x4 y1 y2 y3 σ) 143 (mkp 0 5 [(0, .ref 41), (3, .int x3), (4, .int x4)]) [.int y3, .int y2, .int y1, .ref 56] σ := by
  exact (by refine GO.to (md_X10_hangs N) (kl := [(77, fun vs st σ => kS0 st (kA 0 41 vs (kI 3 vs (fun x3 => KB x3 σ))))]) (List.forall_mem_cons.mpr ⟨fun vs st σ => go_kS0 (go_kA (fun h0 => go_kI (fun x3 h3 => GO.pat [(0, .ref 41), (3, .int x3)] ⟨h0, h3, trivial⟩ (hKB x3 σ)))), (fun _ z => absurd z List.not_mem_nil)⟩) 150 ?_ ?_ <;> rfl)
set_option maxRecDepth 200000 in
theorem g_X10_hangs_L77 (N : Nat) (KO193 : Wd → Option (Int32 × Wd)) (hKO193 : ∀ (σ : Wd), GO cX10_hangs RX10 5 29 sc0 rI nJ0 nV0 (KO193 σ) 193 (mkp 0 5 [(0, .ref 41)]) [] σ) : ∀ (n : Nat), ∀ (x3 : Int32) (σ : Wd), GO cX10_hangs RX10 5 29 sc0 rI nJ0 nV0 (f_X10_hangs_L77 N KO193 n x3 σ) 77 (mkp 0 5 [(0, .ref 41), (3, .int x3)]) [] σ
  | 0, x3, σ => GO.none
  | n + 1, x3, σ => by
    exact (by refine GO.to (md_X10_hangs N) (kl := [(193, fun vs st σ => kS0 st (kA 0 41 vs (KO193 σ))), (143, fun vs st σ => kStaiii 56 st (fun y1 y2 y3 => kA 0 41 vs (kI 3 vs (fun x3 => kI 4 vs (fun x4 => f_X10_hangs_J143 N (f_X10_hangs_L77 N KO193 n) KO193 x3 x4 y1 y2 y3 σ)))))]) (List.forall_mem_cons.mpr ⟨fun vs st σ => go_kS0 (go_kA (fun h0 => GO.pat [(0, .ref 41)] ⟨h0, trivial⟩ (hKO193 σ))), List.forall_mem_cons.mpr ⟨fun vs st σ => go_kStaiii (fun y1 y2 y3 => go_kA (fun h0 => go_kI (fun x3 h3 => go_kI (fun x4 h4 => GO.pat [(0, .ref 41), (3, .int x3), (4, .int x4)] ⟨h0, h3, h4, trivial⟩ (g_X10_hangs_J143 N (f_X10_hangs_L77 N KO193 n) (g_X10_hangs_L77 N KO193 hKO193 n) KO193 hKO193 x3 x4 y1 y2 y3 σ))))), (fun _ z => absurd z List.not_mem_nil)⟩⟩) 150 ?_ ?_ <;> rfl)
set_option maxRecDepth 200000 in
theorem g_X10_hangs_L198 (N : Nat) (KO236 : Int32 → Wd → Option (Int32 × Wd)) (hKO236 : ∀ (x3 : Int32) (σ : Wd), GO cX10_hangs RX10 5 29 sc0 rI nJ0 nV0 (KO236 x3 σ) 236 (mkp 0 5 [(3, .int x3)]) [] σ) : ∀ (n : Nat), ∀ (x3 : Int32) (x4 : Int32) (σ : Wd), GO cX10_hangs RX10 5 29 sc0 rI nJ0 nV0 (f_X10_hangs_L198 N KO236 n x3 x4 σ) 198 (mkp 0 5 [(0, .ref 41), (3, .int x3), (4, .int x4)]) [] σ
  | 0, x3, x4, σ => GO.none
  | n + 1, x3, x4, σ => by
    exact (by refine GO.to (md_X10_hangs N) (kl := [(236, fun vs st σ => kS0 st (kI 3 vs (fun x3 => KO236 x3 σ))), (198, fun vs st σ => kS0 st (kA 0 41 vs (kI 3 vs (fun x3 => kI 4 vs (fun x4 => f_X10_hangs_L198 N KO236 n x3 x4 σ)))))]) (List.forall_mem_cons.mpr ⟨fun vs st σ => go_kS0 (go_kI (fun x3 h3 => GO.pat [(3, .int x3)] ⟨h3, trivial⟩ (hKO236 x3 σ))), List.forall_mem_cons.mpr ⟨fun vs st σ => go_kS0 (go_kA (fun h0 => go_kI (fun x3 h3 => go_kI (fun x4 h4 => GO.pat [(0, .ref 41), (3, .int x3), (4, .int x4)] ⟨h0, h3, h4, trivial⟩ (g_X10_hangs_L198 N KO236 hKO236 n x3 x4 σ))))), (fun _ z => absurd z List.not_mem_nil)⟩⟩) 150 ?_ ?_ <;> rfl)
set_option maxRecDepth 200000 in
theorem g_X10_hangs_J236 (N : Nat) (x3 : Int32) (σ : Wd) : GO cX10_hangs RX10 5 29 sc0 rI nJ0 nV0 (f_X10_hangs_J236 N x3 σ) 236 (mkp 0 5 [(3, .int x3)]) [] σ := by
  exact (by refine GO.to (md_X10_hangs N) (kl := []) ((fun _ z => absurd z List.not_mem_nil)) 150 ?_ ?_ <;> rfl)
set_option maxRecDepth 200000 in
theorem g_X10_hangs_J193 (N : Nat) (σ : Wd) : GO cX10_hangs RX10 5 29 sc0 rI nJ0 nV0 (f_X10_hangs_J193 N σ) 193 (mkp 0 5 [(0, .ref 41)]) [] σ := by
  exact (by refine GO.to (md_X10_hangs N) (kl := [(198, fun vs st σ => kS0 st (kA 0 41 vs (kI 3 vs (fun x3 => kI 4 vs (fun x4 => f_X10_hangs_L198 N (f_X10_hangs_J236 N) N x3 x4 σ)))))]) (List.forall_mem_cons.mpr ⟨fun vs st σ => go_kS0 (go_kA (fun h0 => go_kI (fun x3 h3 => go_kI (fun x4 h4 => GO.pat [(0, .ref 41), (3, .int x3), (4, .int x4)] ⟨h0, h3, h4, trivial⟩ (g_X10_hangs_L198 N (f_X10_hangs_J236 N) (g_X10_hangs_J236 N) N x3 x4 σ))))), (fun _ z => absurd z List.not_mem_nil)⟩) 150 ?_ ?_ <;> rfl)
set_option maxRecDepth 200000 in
theorem g_X10_hangs_J70 (N : Nat) (σ : Wd) : GO cX10_hangs RX10 5 29 sc0 rI nJ0 nV0 (f_X10_hangs_J70 N σ) 70 (mkp 0 5 [(0, .ref 41)]) [] σ := by
  exact (by refine GO.to (md_X10_hangs N) (kl := [(77, fun vs st σ => kS0 st (kA 0 41 vs (kI 3 vs (fun x3 => f_X10_hangs_L77 N (f_X10_hangs_J193 N) N x3 σ))))]) (List.forall_mem_cons.mpr ⟨fun vs st σ => go_kS0 (go_kA (fun h0 => go_kI (fun x3 h3 => GO.pat [(0, .ref 41), (3, .int x3)] ⟨h0, h3, trivial⟩ (g_X10_hangs_L77 N (f_X10_hangs_J193 N) (g_X10_hangs_J193 N) N x3 σ)))), (fun _ z => absurd z List.not_mem_nil)⟩) 150 ?_ ?_ <;> rfl)
set_option maxRecDepth 200000 in
theorem C_X10_hangs (N : Nat) : CTI 29 yX10_hangs cX10_hangs 5 (some .int) (a_X10_hangs N) := by
  refine CTI.of (own := RX10) (by decide) rfl (fun as σ r h => ?_)
  unfold a_X10_hangs at h
  rcases kSE_s h with ⟨r0, rfl, h0⟩ | hn
  ·
    obtain ⟨b1, r1, rfl, h1⟩ := kSI_s h0
    obtain ⟨rfl, h9⟩ := kS0_s h1
    exact ⟨Nat.le_of_ble_eq_true rfl, by refine GO.to (md_X10_hangs N) (kl := [(22, fun vs st σ => kS0 st (kA 0 41 vs (kI 2 vs (fun x2 => kI 3 vs (fun x3 => f_X10_hangs_L22 N (f_X10_hangs_J70 N) N x2 x3 σ)))))]) (List.forall_mem_cons.mpr ⟨fun vs st σ => go_kS0 (go_kA (fun h0 => go_kI (fun x2 h2 => go_kI (fun x3 h3 => GO.pat [(0, .ref 41), (2, .int x2), (3, .int x3)] ⟨h0, h2, h3, trivial⟩ (g_X10_hangs_L22 N (f_X10_hangs_J70 N) (g_X10_hangs_J70 N) N x2 x3 σ))))), (fun _ z => absurd z List.not_mem_nil)⟩) 150 ?_ ?_ <;> rfl⟩
  cases hn
def T_X10_times : List (Nat × Ent) := [(0, .aload_n 0, 1, []), (1, .iload_n 1, 2, []), (2, .invokevirtual 163, 5, []), (5, .ifCond .ne 5, 8, [10]), (8, .iconst (-1), 9, []), (9, .ireturn, 10, []), (10, .aload_n 0, 11, []), (11, .iload_n 1, 12, []), (12, .invokevirtual 260, 15, []), (15, .iconst 0, 16, []), (16, .istore_n 2, 17, []), (17, .iconst 0, 18, []), (18, .istore_n 3, 19, []), (19, .iload_n 3, 20, []), (20, .aload_n 0, 21, []), (21, .getfield 236, 24, []), (24, .if_icmp .ge 78, 27, [102]), (27, .iconst 1, 28, []), (28, .istore 4, 30, []), (30, .iconst 0, 31, []), (31, .istore 5, 33, []), (33, .iload 5, 35, []), (35, .iload_n 3, 36, []), (36, .if_icmp .ge 47, 39, [83]), (39, .iload 4, 41, []), (41, .ifCond .eq 33, 44, [74]), (44, .aload_n 0, 45, []), (45, .getfield 57, 48, []), (48, .aload_n 0, 49, []), (49, .getfield 66, 52, []), (52, .iload 5, 54, []), (54, .iaload, 55, []), (55, .iaload, 56, []), (56, .aload_n 0, 57, []), (57, .getfield 57, 60, []), (60, .aload_n 0, 61, []), (61, .getfield 66, 64, []), (64, .iload_n 3, 65, []), (65, .iaload, 66, []), (66, .iaload, 67, []), (67, .if_icmp .eq 7, 70, [74]), (70, .iconst 1, 71, []), (71, .goto 4, 74, [75]), (74, .iconst 0, 75, []), (75, .istore 4, 77, []), (77, .iinc 5 1, 80, []), (80, .goto (-47), 83, [33]), (83, .iload_n 2, 84, []), (84, .iload 4, 86, []), (86, .ifCond .eq 7, 89, [93]), (89, .iconst 1, 90, []), (90, .goto 4, 93, [94]), (93, .iconst 0, 94, []), (94, .iadd, 95, []), (95, .istore_n 2, 96, []), (96, .iinc 3 1, 99, []), (99, .goto (-80), 102, [19]), (102, .iload_n 2, 103, []), (103, .ireturn, 104, [])]
set_option maxRecDepth 200000 in
theorem tc_X10_times : T_X10_times.all (chk cX10_times) = true := by decide +kernel
def f_X10_times_L33 (N : Nat) (KO83 : Int32 → Int32 → Int32 → Wd → Option (Int32 × Wd)) : Nat → Int32 → Int32 → Int32 → Int32 → Wd → Option (Int32 × Wd)
  | 0, _, _, _, _, _ => none
  | n + 1, x2, x3, x4, x5, σ => if x3 ≤ x5 then (KO83 x2 x3 x4 σ) else (if x4 = 0 then (f_X10_times_L33 N KO83 n x2 x3 0 (x5 + 1) σ) else ((xld σ 60 13 x5).bind fun v3 => (xld σ 57 2048 v3).bind fun v4 => (xld σ 60 13 x3).bind fun v5 => (xld σ 57 2048 v5).bind fun v6 => if v4 = v6 then (f_X10_times_L33 N KO83 n x2 x3 0 (x5 + 1) σ) else (f_X10_times_L33 N KO83 n x2 x3 1 (x5 + 1) σ)))
def f_X10_times_J83 (N : Nat) (KB : Int32 → Int32 → Wd → Option (Int32 × Wd)) (KO102 : Int32 → Wd → Option (Int32 × Wd)) (x2 : Int32) (x3 : Int32) (x4 : Int32) (σ : Wd) : Option (Int32 × Wd) :=
  if x4 = 0 then (KB (x2 + 0) (x3 + 1) σ) else (KB (x2 + 1) (x3 + 1) σ)
def f_X10_times_L19 (N : Nat) (KO102 : Int32 → Wd → Option (Int32 × Wd)) : Nat → Int32 → Int32 → Wd → Option (Int32 × Wd)
  | 0, _, _, _ => none
  | n + 1, x2, x3, σ => if (σ.1 41 28) ≤ x3 then (KO102 x2 σ) else (f_X10_times_L33 N (f_X10_times_J83 N (f_X10_times_L19 N KO102 n) KO102) N x2 x3 1 0 σ)
def f_X10_times_J102 (N : Nat) (x2 : Int32) (σ : Wd) : Option (Int32 × Wd) :=
  some (x2, σ)
def f_X10_times (N : Nat) (a1 : Int32) (σ : Wd) : Option (Int32 × Wd) :=
  (f_X10_isPlan N a1 σ).bind fun p1 => if p1.1 = 0 then (some ((-1), p1.2)) else ((f_X10_laysPlan N a1 p1.2).bind fun σ2 => f_X10_times_L19 N (f_X10_times_J102 N) N 0 0 σ2)
def a_X10_times (N : Nat) : List Value → Wd → Option (Int32 × Wd) := fun as σ => kSE 41 as (fun r0 => kSI r0 (fun b1 r1 => kS0 r1 (f_X10_times N b1 σ))) (none)
def ct_X10_times (N : Nat) : List (Nat × Cal) := [(163, 2, 10, .inl (a_X10_isPlan N)), (260, 2, 10, .inr (.inr (a_X10_laysPlan N)))]
set_option maxRecDepth 200000 in
theorem md_X10_times (N : Nat) : MDOK T_X10_times ft_X10 lt_X10 (ct_X10_times N) cX10_times RX10 29 := ⟨tc_X10_times, fc_X10, lc_X10, List.forall_mem_cons.mpr ⟨Or.inl ⟨yX10_isPlan, cX10_isPlan, 2, (some .boolean), 2, k_X10_163, Nat.le_of_ble_eq_true rfl, C_X10_isPlan N⟩, List.forall_mem_cons.mpr ⟨Or.inl ⟨yX10_laysPlan, cX10_laysPlan, 2, none, 28, k_X10_260, Nat.le_of_ble_eq_true rfl, C_X10_laysPlan N⟩, (fun _ z => absurd z List.not_mem_nil)⟩⟩⟩
set_option maxRecDepth 200000 in
theorem g_X10_times_L33 (N : Nat) (KO83 : Int32 → Int32 → Int32 → Wd → Option (Int32 × Wd)) (hKO83 : ∀ (x2 : Int32) (x3 : Int32) (x4 : Int32) (σ : Wd), GO cX10_times RX10 6 29 sc0 rI nJ0 nV0 (KO83 x2 x3 x4 σ) 83 (mkp 0 6 [(0, .ref 41), (2, .int x2), (3, .int x3), (4, .int x4)]) [] σ) : ∀ (n : Nat), ∀ (x2 : Int32) (x3 : Int32) (x4 : Int32) (x5 : Int32) (σ : Wd), GO cX10_times RX10 6 29 sc0 rI nJ0 nV0 (f_X10_times_L33 N KO83 n x2 x3 x4 x5 σ) 33 (mkp 0 6 [(0, .ref 41), (2, .int x2), (3, .int x3), (4, .int x4), (5, .int x5)]) [] σ
  | 0, x2, x3, x4, x5, σ => GO.none
  | n + 1, x2, x3, x4, x5, σ => by
    exact (by refine GO.to (md_X10_times N) (kl := [(83, fun vs st σ => kS0 st (kA 0 41 vs (kI 2 vs (fun x2 => kI 3 vs (fun x3 => kI 4 vs (fun x4 => KO83 x2 x3 x4 σ)))))), (33, fun vs st σ => kS0 st (kA 0 41 vs (kI 2 vs (fun x2 => kI 3 vs (fun x3 => kI 4 vs (fun x4 => kI 5 vs (fun x5 => f_X10_times_L33 N KO83 n x2 x3 x4 x5 σ)))))))]) (List.forall_mem_cons.mpr ⟨fun vs st σ => go_kS0 (go_kA (fun h0 => go_kI (fun x2 h2 => go_kI (fun x3 h3 => go_kI (fun x4 h4 => GO.pat [(0, .ref 41), (2, .int x2), (3, .int x3), (4, .int x4)] ⟨h0, h2, h3, h4, trivial⟩ (hKO83 x2 x3 x4 σ)))))), List.forall_mem_cons.mpr ⟨fun vs st σ => go_kS0 (go_kA (fun h0 => go_kI (fun x2 h2 => go_kI (fun x3 h3 => go_kI (fun x4 h4 => go_kI (fun x5 h5 => GO.pat [(0, .ref 41), (2, .int x2), (3, .int x3), (4, .int x4), (5, .int x5)] ⟨h0, h2, h3, h4, h5, trivial⟩ (g_X10_times_L33 N KO83 hKO83 n x2 x3 x4 x5 σ))))))), (fun _ z => absurd z List.not_mem_nil)⟩⟩) 64 ?_ ?_ <;> rfl)
set_option maxRecDepth 200000 in
theorem g_X10_times_J83 (N : Nat) (KB : Int32 → Int32 → Wd → Option (Int32 × Wd)) (hKB : ∀ (x2 : Int32) (x3 : Int32) (σ : Wd), GO cX10_times RX10 6 29 sc0 rI nJ0 nV0 (KB x2 x3 σ) 19 (mkp 0 6 [(0, .ref 41), (2, .int x2), (3, .int x3)]) [] σ) (KO102 : Int32 → Wd → Option (Int32 × Wd)) (hKO102 : ∀ (x2 : Int32) (σ : Wd), GO cX10_times RX10 6 29 sc0 rI nJ0 nV0 (KO102 x2 σ) 102 (mkp 0 6 [(2, .int x2)]) [] σ) (x2 : Int32) (x3 : Int32) (x4 : Int32) (σ : Wd) : GO cX10_times RX10 6 29 sc0 rI nJ0 nV0 (f_X10_times_J83 N KB KO102 x2 x3 x4 σ) 83 (mkp 0 6 [(0, .ref 41), (2, .int x2), (3, .int x3), (4, .int x4)]) [] σ := by
  exact (by refine GO.to (md_X10_times N) (kl := [(19, fun vs st σ => kS0 st (kA 0 41 vs (kI 2 vs (fun x2 => kI 3 vs (fun x3 => KB x2 x3 σ)))))]) (List.forall_mem_cons.mpr ⟨fun vs st σ => go_kS0 (go_kA (fun h0 => go_kI (fun x2 h2 => go_kI (fun x3 h3 => GO.pat [(0, .ref 41), (2, .int x2), (3, .int x3)] ⟨h0, h2, h3, trivial⟩ (hKB x2 x3 σ))))), (fun _ z => absurd z List.not_mem_nil)⟩) 64 ?_ ?_ <;> rfl)
set_option maxRecDepth 200000 in
theorem g_X10_times_L19 (N : Nat) (KO102 : Int32 → Wd → Option (Int32 × Wd)) (hKO102 : ∀ (x2 : Int32) (σ : Wd), GO cX10_times RX10 6 29 sc0 rI nJ0 nV0 (KO102 x2 σ) 102 (mkp 0 6 [(2, .int x2)]) [] σ) : ∀ (n : Nat), ∀ (x2 : Int32) (x3 : Int32) (σ : Wd), GO cX10_times RX10 6 29 sc0 rI nJ0 nV0 (f_X10_times_L19 N KO102 n x2 x3 σ) 19 (mkp 0 6 [(0, .ref 41), (2, .int x2), (3, .int x3)]) [] σ
  | 0, x2, x3, σ => GO.none
  | n + 1, x2, x3, σ => by
    exact (by refine GO.to (md_X10_times N) (kl := [(102, fun vs st σ => kS0 st (kI 2 vs (fun x2 => KO102 x2 σ))), (33, fun vs st σ => kS0 st (kA 0 41 vs (kI 2 vs (fun x2 => kI 3 vs (fun x3 => kI 4 vs (fun x4 => kI 5 vs (fun x5 => f_X10_times_L33 N (f_X10_times_J83 N (f_X10_times_L19 N KO102 n) KO102) N x2 x3 x4 x5 σ)))))))]) (List.forall_mem_cons.mpr ⟨fun vs st σ => go_kS0 (go_kI (fun x2 h2 => GO.pat [(2, .int x2)] ⟨h2, trivial⟩ (hKO102 x2 σ))), List.forall_mem_cons.mpr ⟨fun vs st σ => go_kS0 (go_kA (fun h0 => go_kI (fun x2 h2 => go_kI (fun x3 h3 => go_kI (fun x4 h4 => go_kI (fun x5 h5 => GO.pat [(0, .ref 41), (2, .int x2), (3, .int x3), (4, .int x4), (5, .int x5)] ⟨h0, h2, h3, h4, h5, trivial⟩ (g_X10_times_L33 N (f_X10_times_J83 N (f_X10_times_L19 N KO102 n) KO102) (g_X10_times_J83 N (f_X10_times_L19 N KO102 n) (g_X10_times_L19 N KO102 hKO102 n) KO102 hKO102) N x2 x3 x4 x5 σ))))))), (fun _ z => absurd z List.not_mem_nil)⟩⟩) 64 ?_ ?_ <;> rfl)
set_option maxRecDepth 200000 in
theorem g_X10_times_J102 (N : Nat) (x2 : Int32) (σ : Wd) : GO cX10_times RX10 6 29 sc0 rI nJ0 nV0 (f_X10_times_J102 N x2 σ) 102 (mkp 0 6 [(2, .int x2)]) [] σ := by
  exact (by refine GO.to (md_X10_times N) (kl := []) ((fun _ z => absurd z List.not_mem_nil)) 64 ?_ ?_ <;> rfl)
set_option maxRecDepth 200000 in
theorem C_X10_times (N : Nat) : CTI 29 yX10_times cX10_times 6 (some .int) (a_X10_times N) := by
  refine CTI.of (own := RX10) (by decide) rfl (fun as σ r h => ?_)
  unfold a_X10_times at h
  rcases kSE_s h with ⟨r0, rfl, h0⟩ | hn
  ·
    obtain ⟨b1, r1, rfl, h1⟩ := kSI_s h0
    obtain ⟨rfl, h9⟩ := kS0_s h1
    exact ⟨Nat.le_of_ble_eq_true rfl, by refine GO.to (md_X10_times N) (kl := [(19, fun vs st σ => kS0 st (kA 0 41 vs (kI 2 vs (fun x2 => kI 3 vs (fun x3 => f_X10_times_L19 N (f_X10_times_J102 N) N x2 x3 σ)))))]) (List.forall_mem_cons.mpr ⟨fun vs st σ => go_kS0 (go_kA (fun h0 => go_kI (fun x2 h2 => go_kI (fun x3 h3 => GO.pat [(0, .ref 41), (2, .int x2), (3, .int x3)] ⟨h0, h2, h3, trivial⟩ (g_X10_times_L19 N (f_X10_times_J102 N) (g_X10_times_J102 N) N x2 x3 σ))))), (fun _ z => absurd z List.not_mem_nil)⟩) 64 ?_ ?_ <;> rfl⟩
  cases hn
def T_X10_adds : List (Nat × Ent) := [(0, .aload_n 0, 1, []), (1, .iload_n 1, 2, []), (2, .invokevirtual 163, 5, []), (5, .ifCond .eq 15, 8, [20]), (8, .aload_n 0, 9, []), (9, .iload_n 1, 10, []), (10, .iload_n 2, 11, []), (11, .iload_n 3, 12, []), (12, .iload 4, 14, []), (14, .invokevirtual 273, 17, []), (17, .ifCond .ne 5, 20, [22]), (20, .iconst (-1), 21, []), (21, .ireturn, 22, []), (22, .aload_n 0, 23, []), (23, .iload_n 1, 24, []), (24, .invokevirtual 260, 27, []), (27, .aload_n 0, 28, []), (28, .iload_n 2, 29, []), (29, .iload_n 3, 30, []), (30, .iload 4, 32, []), (32, .invokevirtual 277, 35, []), (35, .iconst 0, 36, []), (36, .istore 5, 38, []), (38, .iconst 0, 39, []), (39, .istore 6, 41, []), (41, .iload 6, 43, []), (43, .aload_n 0, 44, []), (44, .getfield 236, 47, []), (47, .if_icmp .ge 29, 50, [76]), (50, .iload 5, 52, []), (52, .aload_n 0, 53, []), (53, .getfield 60, 56, []), (56, .aload_n 0, 57, []), (57, .getfield 66, 60, []), (60, .iload 6, 62, []), (62, .iaload, 63, []), (63, .iaload, 64, []), (64, .iload 6, 66, []), (66, .ishl, 67, []), (67, .ior, 68, []), (68, .istore 5, 70, []), (70, .iinc 6 1, 73, []), (73, .goto (-32), 76, [41]), (76, .iload 5, 78, []), (78, .ireturn, 79, [])]
set_option maxRecDepth 200000 in
theorem tc_X10_adds : T_X10_adds.all (chk cX10_adds) = true := by decide +kernel
def f_X10_adds_L41 (N : Nat) (KO76 : Int32 → Wd → Option (Int32 × Wd)) : Nat → Int32 → Int32 → Wd → Option (Int32 × Wd)
  | 0, _, _, _ => none
  | n + 1, x5, x6, σ => if (σ.1 41 28) ≤ x6 then (KO76 x5 σ) else ((xld σ 60 13 x6).bind fun v5 => (xld σ 58 2048 v5).bind fun v6 => f_X10_adds_L41 N KO76 n (x5 ||| (v6 <<< (x6 &&& 31))) (x6 + 1) σ)
def f_X10_adds_J76 (N : Nat) (x5 : Int32) (σ : Wd) : Option (Int32 × Wd) :=
  some (x5, σ)
def f_X10_adds (N : Nat) (a1 : Int32) (a2 : Int32) (a3 : Int32) (a4 : Int32) (σ : Wd) : Option (Int32 × Wd) :=
  (f_X10_isPlan N a1 σ).bind fun p1 => if p1.1 = 0 then (some ((-1), p1.2)) else ((f_X10_areNumbers N a1 a2 a3 a4 p1.2).bind fun p2 => if p2.1 = 0 then (some ((-1), p2.2)) else ((f_X10_laysPlan N a1 p2.2).bind fun σ3 => (f_X10_evaluates N a2 a3 a4 σ3).bind fun σ4 => f_X10_adds_L41 N (f_X10_adds_J76 N) N 0 0 σ4))
def a_X10_adds (N : Nat) : List Value → Wd → Option (Int32 × Wd) := fun as σ => kSE 41 as (fun r0 => kSI r0 (fun b1 r1 => kSI r1 (fun b2 r2 => kSI r2 (fun b3 r3 => kSI r3 (fun b4 r4 => kS0 r4 (f_X10_adds N b1 b2 b3 b4 σ)))))) (none)
set_option maxRecDepth 200000 in
theorem k_X10_273 : calchk RX10 273 5 10 yX10_areNumbers cX10_areNumbers 6 (some .boolean) = true := by decide +kernel
set_option maxRecDepth 200000 in
theorem k_X10_277 : calchk RX10 277 4 10 yX10_evaluates cX10_evaluates 7 none = true := by decide +kernel
def ct_X10_adds (N : Nat) : List (Nat × Cal) := [(163, 2, 10, .inl (a_X10_isPlan N)), (273, 5, 10, .inl (a_X10_areNumbers N)), (260, 2, 10, .inr (.inr (a_X10_laysPlan N))), (277, 4, 10, .inr (.inr (a_X10_evaluates N)))]
set_option maxRecDepth 200000 in
theorem md_X10_adds (N : Nat) : MDOK T_X10_adds ft_X10 lt_X10 (ct_X10_adds N) cX10_adds RX10 29 := ⟨tc_X10_adds, fc_X10, lc_X10, List.forall_mem_cons.mpr ⟨Or.inl ⟨yX10_isPlan, cX10_isPlan, 2, (some .boolean), 2, k_X10_163, Nat.le_of_ble_eq_true rfl, C_X10_isPlan N⟩, List.forall_mem_cons.mpr ⟨Or.inl ⟨yX10_areNumbers, cX10_areNumbers, 6, (some .boolean), 3, k_X10_273, Nat.le_of_ble_eq_true rfl, C_X10_areNumbers N⟩, List.forall_mem_cons.mpr ⟨Or.inl ⟨yX10_laysPlan, cX10_laysPlan, 2, none, 28, k_X10_260, Nat.le_of_ble_eq_true rfl, C_X10_laysPlan N⟩, List.forall_mem_cons.mpr ⟨Or.inl ⟨yX10_evaluates, cX10_evaluates, 7, none, 1, k_X10_277, Nat.le_of_ble_eq_true rfl, C_X10_evaluates N⟩, (fun _ z => absurd z List.not_mem_nil)⟩⟩⟩⟩⟩
set_option maxRecDepth 200000 in
theorem g_X10_adds_L41 (N : Nat) (KO76 : Int32 → Wd → Option (Int32 × Wd)) (hKO76 : ∀ (x5 : Int32) (σ : Wd), GO cX10_adds RX10 7 29 sc0 rI nJ0 nV0 (KO76 x5 σ) 76 (mkp 0 7 [(5, .int x5)]) [] σ) : ∀ (n : Nat), ∀ (x5 : Int32) (x6 : Int32) (σ : Wd), GO cX10_adds RX10 7 29 sc0 rI nJ0 nV0 (f_X10_adds_L41 N KO76 n x5 x6 σ) 41 (mkp 0 7 [(0, .ref 41), (5, .int x5), (6, .int x6)]) [] σ
  | 0, x5, x6, σ => GO.none
  | n + 1, x5, x6, σ => by
    exact (by refine GO.to (md_X10_adds N) (kl := [(76, fun vs st σ => kS0 st (kI 5 vs (fun x5 => KO76 x5 σ))), (41, fun vs st σ => kS0 st (kA 0 41 vs (kI 5 vs (fun x5 => kI 6 vs (fun x6 => f_X10_adds_L41 N KO76 n x5 x6 σ)))))]) (List.forall_mem_cons.mpr ⟨fun vs st σ => go_kS0 (go_kI (fun x5 h5 => GO.pat [(5, .int x5)] ⟨h5, trivial⟩ (hKO76 x5 σ))), List.forall_mem_cons.mpr ⟨fun vs st σ => go_kS0 (go_kA (fun h0 => go_kI (fun x5 h5 => go_kI (fun x6 h6 => GO.pat [(0, .ref 41), (5, .int x5), (6, .int x6)] ⟨h0, h5, h6, trivial⟩ (g_X10_adds_L41 N KO76 hKO76 n x5 x6 σ))))), (fun _ z => absurd z List.not_mem_nil)⟩⟩) 50 ?_ ?_ <;> rfl)
set_option maxRecDepth 200000 in
theorem g_X10_adds_J76 (N : Nat) (x5 : Int32) (σ : Wd) : GO cX10_adds RX10 7 29 sc0 rI nJ0 nV0 (f_X10_adds_J76 N x5 σ) 76 (mkp 0 7 [(5, .int x5)]) [] σ := by
  exact (by refine GO.to (md_X10_adds N) (kl := []) ((fun _ z => absurd z List.not_mem_nil)) 50 ?_ ?_ <;> rfl)
set_option maxRecDepth 200000 in
theorem C_X10_adds (N : Nat) : CTI 29 yX10_adds cX10_adds 7 (some .int) (a_X10_adds N) := by
  refine CTI.of (own := RX10) (by decide) rfl (fun as σ r h => ?_)
  unfold a_X10_adds at h
  rcases kSE_s h with ⟨r0, rfl, h0⟩ | hn
  ·
    obtain ⟨b1, r1, rfl, h1⟩ := kSI_s h0
    obtain ⟨b2, r2, rfl, h2⟩ := kSI_s h1
    obtain ⟨b3, r3, rfl, h3⟩ := kSI_s h2
    obtain ⟨b4, r4, rfl, h4⟩ := kSI_s h3
    obtain ⟨rfl, h9⟩ := kS0_s h4
    exact ⟨Nat.le_of_ble_eq_true rfl, by refine GO.to (md_X10_adds N) (kl := [(41, fun vs st σ => kS0 st (kA 0 41 vs (kI 5 vs (fun x5 => kI 6 vs (fun x6 => f_X10_adds_L41 N (f_X10_adds_J76 N) N x5 x6 σ)))))]) (List.forall_mem_cons.mpr ⟨fun vs st σ => go_kS0 (go_kA (fun h0 => go_kI (fun x5 h5 => go_kI (fun x6 h6 => GO.pat [(0, .ref 41), (5, .int x5), (6, .int x6)] ⟨h0, h5, h6, trivial⟩ (g_X10_adds_L41 N (f_X10_adds_J76 N) (g_X10_adds_J76 N) N x5 x6 σ))))), (fun _ z => absurd z List.not_mem_nil)⟩) 50 ?_ ?_ <;> rfl⟩
  cases hn
def T_X10_settles : List (Nat × Ent) := [(0, .aload_n 0, 1, []), (1, .iload_n 1, 2, []), (2, .invokevirtual 163, 5, []), (5, .ifCond .eq 33, 8, [38]), (8, .iload_n 2, 9, []), (9, .i2l, 10, []), (10, .ldc2_w 255, 13, []), (13, .aload_n 0, 14, []), (14, .iload_n 1, 15, []), (15, .invokevirtual 167, 18, []), (18, .i2l, 19, []), (19, .invokestatic 104, 22, []), (22, .ifCond .eq 16, 25, [38]), (25, .aload_n 0, 26, []), (26, .iload_n 1, 27, []), (27, .iload_n 3, 28, []), (28, .iload 4, 30, []), (30, .iload 5, 32, []), (32, .invokevirtual 273, 35, []), (35, .ifCond .ne 5, 38, [40]), (38, .iconst (-1), 39, []), (39, .ireturn, 40, []), (40, .aload_n 0, 41, []), (41, .iload_n 1, 42, []), (42, .invokevirtual 260, 45, []), (45, .aload_n 0, 46, []), (46, .iload_n 3, 47, []), (47, .iload 4, 49, []), (49, .iload 5, 51, []), (51, .invokevirtual 277, 54, []), (54, .aload_n 0, 55, []), (55, .invokevirtual 281, 58, []), (58, .iload_n 2, 59, []), (59, .ifCond .ge 10, 62, [69]), (62, .aload_n 0, 63, []), (63, .invokevirtual 266, 66, []), (66, .goto 14, 69, [80]), (69, .aload_n 0, 70, []), (70, .getfield 57, 73, []), (73, .aload_n 0, 74, []), (74, .getfield 66, 77, []), (77, .iload_n 2, 78, []), (78, .iaload, 79, []), (79, .iaload, 80, []), (80, .ireturn, 81, [])]
set_option maxRecDepth 200000 in
theorem tc_X10_settles : T_X10_settles.all (chk cX10_settles) = true := by decide +kernel
def f_X10_settles (N : Nat) (a1 : Int32) (a2 : Int32) (a3 : Int32) (a4 : Int32) (a5 : Int32) (σ : Wd) : Option (Int32 × Wd) :=
  (f_X10_isPlan N a1 σ).bind fun p1 => if p1.1 = 0 then (some ((-1), p1.2)) else ((f_X10_width N a1 p1.2).bind fun p2 => (f_X10_in N (Int32.toInt64 a2) (-1) (Int32.toInt64 p2.1) p2.2).bind fun p3 => if p3.1 = 0 then (some ((-1), p3.2)) else ((f_X10_areNumbers N a1 a3 a4 a5 p3.2).bind fun p4 => if p4.1 = 0 then (some ((-1), p4.2)) else ((f_X10_laysPlan N a1 p4.2).bind fun σ5 => (f_X10_evaluates N a3 a4 a5 σ5).bind fun σ6 => (f_X10_settlesAll N σ6).bind fun σ7 => if 0 ≤ a2 then ((xld σ7 60 13 a2).bind fun v8 => (xld σ7 57 2048 v8).bind fun v9 => some (v9, σ7)) else ((f_X10_lastOut N σ7).bind fun p10 => some (p10.1, p10.2)))))
def a_X10_settles (N : Nat) : List Value → Wd → Option (Int32 × Wd) := fun as σ => kSE 41 as (fun r0 => kSI r0 (fun b1 r1 => kSI r1 (fun b2 r2 => kSI r2 (fun b3 r3 => kSI r3 (fun b4 r4 => kSI r4 (fun b5 r5 => kS0 r5 (f_X10_settles N b1 b2 b3 b4 b5 σ))))))) (none)
set_option maxRecDepth 200000 in
theorem k_X10_281 : calchk RX10 281 1 10 yX10_settlesAll cX10_settlesAll 7 none = true := by decide +kernel
def ct_X10_settles (N : Nat) : List (Nat × Cal) := [(163, 2, 10, .inl (a_X10_isPlan N)), (167, 2, 10, .inl (a_X10_width N)), (104, 3, 0, .inl (a_X10_in N)), (273, 5, 10, .inl (a_X10_areNumbers N)), (260, 2, 10, .inr (.inr (a_X10_laysPlan N))), (277, 4, 10, .inr (.inr (a_X10_evaluates N))), (281, 1, 10, .inr (.inr (a_X10_settlesAll N))), (266, 1, 10, .inl (a_X10_lastOut N))]
set_option maxRecDepth 200000 in
theorem md_X10_settles (N : Nat) : MDOK T_X10_settles ft_X10 lt_X10 (ct_X10_settles N) cX10_settles RX10 29 := ⟨tc_X10_settles, fc_X10, lc_X10, List.forall_mem_cons.mpr ⟨Or.inl ⟨yX10_isPlan, cX10_isPlan, 2, (some .boolean), 2, k_X10_163, Nat.le_of_ble_eq_true rfl, C_X10_isPlan N⟩, List.forall_mem_cons.mpr ⟨Or.inl ⟨yX10_width, cX10_width, 2, (some .int), 2, k_X10_167, Nat.le_of_ble_eq_true rfl, C_X10_width N⟩, List.forall_mem_cons.mpr ⟨Or.inl ⟨yX10_in, cX10_in, 6, (some .boolean), 1, k_X10_104, Nat.le_of_ble_eq_true rfl, C_X10_in N⟩, List.forall_mem_cons.mpr ⟨Or.inl ⟨yX10_areNumbers, cX10_areNumbers, 6, (some .boolean), 3, k_X10_273, Nat.le_of_ble_eq_true rfl, C_X10_areNumbers N⟩, List.forall_mem_cons.mpr ⟨Or.inl ⟨yX10_laysPlan, cX10_laysPlan, 2, none, 28, k_X10_260, Nat.le_of_ble_eq_true rfl, C_X10_laysPlan N⟩, List.forall_mem_cons.mpr ⟨Or.inl ⟨yX10_evaluates, cX10_evaluates, 7, none, 1, k_X10_277, Nat.le_of_ble_eq_true rfl, C_X10_evaluates N⟩, List.forall_mem_cons.mpr ⟨Or.inl ⟨yX10_settlesAll, cX10_settlesAll, 7, none, 1, k_X10_281, Nat.le_of_ble_eq_true rfl, C_X10_settlesAll N⟩, List.forall_mem_cons.mpr ⟨Or.inl ⟨yX10_lastOut, cX10_lastOut, 3, (some .int), 1, k_X10_266, Nat.le_of_ble_eq_true rfl, C_X10_lastOut N⟩, (fun _ z => absurd z List.not_mem_nil)⟩⟩⟩⟩⟩⟩⟩⟩⟩
set_option maxRecDepth 200000 in
theorem C_X10_settles (N : Nat) : CTI 29 yX10_settles cX10_settles 6 (some .int) (a_X10_settles N) := by
  refine CTI.of (own := RX10) (by decide) rfl (fun as σ r h => ?_)
  unfold a_X10_settles at h
  rcases kSE_s h with ⟨r0, rfl, h0⟩ | hn
  ·
    obtain ⟨b1, r1, rfl, h1⟩ := kSI_s h0
    obtain ⟨b2, r2, rfl, h2⟩ := kSI_s h1
    obtain ⟨b3, r3, rfl, h3⟩ := kSI_s h2
    obtain ⟨b4, r4, rfl, h4⟩ := kSI_s h3
    obtain ⟨b5, r5, rfl, h5⟩ := kSI_s h4
    obtain ⟨rfl, h9⟩ := kS0_s h5
    exact ⟨Nat.le_of_ble_eq_true rfl, by refine GO.to (md_X10_settles N) (kl := []) ((fun _ z => absurd z List.not_mem_nil)) 50 ?_ ?_ <;> rfl⟩
  cases hn
def T_X10_goesThrough : List (Nat × Ent) := [(0, .aload_n 0, 1, []), (1, .iload_n 1, 2, []), (2, .invokevirtual 260, 5, []), (5, .iconst 1, 6, []), (6, .aload_n 0, 7, []), (7, .iload_n 1, 8, []), (8, .invokevirtual 167, 11, []), (11, .ishl, 12, []), (12, .istore_n 3, 13, []), (13, .iconst 0, 14, []), (14, .istore 4, 16, []), (16, .aload_n 0, 17, []), (17, .iconst (-1), 18, []), (18, .putfield 284, 21, []), (21, .iconst 0, 22, []), (22, .istore 5, 24, []), (24, .iload 5, 26, []), (26, .iconst 2, 27, []), (27, .iload_n 3, 28, []), (28, .imul, 29, []), (29, .iload_n 3, 30, []), (30, .imul, 31, []), (31, .if_icmp .ge 100, 34, [131]), (34, .iload 5, 36, []), (36, .iload_n 3, 37, []), (37, .irem, 38, []), (38, .istore 6, 40, []), (40, .iload 5, 42, []), (42, .iload_n 3, 43, []), (43, .idiv, 44, []), (44, .iload_n 3, 45, []), (45, .irem, 46, []), (46, .istore 7, 48, []), (48, .iload 5, 50, []), (50, .iload_n 3, 51, []), (51, .iload_n 3, 52, []), (52, .imul, 53, []), (53, .idiv, 54, []), (54, .istore 8, 56, []), (56, .aload_n 0, 57, []), (57, .iload 6, 59, []), (59, .iload 7, 61, []), (61, .iload 8, 63, []), (63, .invokevirtual 277, 66, []), (66, .aload_n 0, 67, []), (67, .invokevirtual 281, 70, []), (70, .aload_n 0, 71, []), (71, .invokevirtual 266, 74, []), (74, .istore 9, 76, []), (76, .iload 4, 78, []), (78, .iload 9, 80, []), (80, .iload_n 2, 81, []), (81, .if_icmp .gt 7, 84, [88]), (84, .iconst 1, 85, []), (85, .goto 4, 88, [89]), (88, .iconst 0, 89, []), (89, .iadd, 90, []), (90, .istore 4, 92, []), (92, .iload 9, 94, []), (94, .aload_n 0, 95, []), (95, .getfield 284, 98, []), (98, .if_icmp .le 27, 101, [125]), (101, .aload_n 0, 102, []), (102, .iload 9, 104, []), (104, .putfield 284, 107, []), (107, .aload_n 0, 108, []), (108, .iload 6, 110, []), (110, .putfield 287, 113, []), (113, .aload_n 0, 114, []), (114, .iload 7, 116, []), (116, .putfield 290, 119, []), (119, .aload_n 0, 120, []), (120, .iload 8, 122, []), (122, .putfield 293, 125, []), (125, .iinc 5 1, 128, []), (128, .goto (-104), 131, [24]), (131, .iload 4, 133, []), (133, .ireturn, 134, [])]
set_option maxRecDepth 200000 in
theorem tc_X10_goesThrough : T_X10_goesThrough.all (chk cX10_goesThrough) = true := by decide +kernel
def f_X10_goesThrough_J89 (N : Nat) (KB : Int32 → Int32 → Int32 → Int32 → Wd → Option (Int32 × Wd)) (KO131 : Int32 → Wd → Option (Int32 × Wd)) (x2 : Int32) (x3 : Int32) (x5 : Int32) (x6 : Int32) (x7 : Int32) (x8 : Int32) (x9 : Int32) (y0 : Int32) (y1 : Int32) (σ : Wd) : Option (Int32 × Wd) :=
  if x9 ≤ (σ.1 41 32) then (KB x2 x3 (y0 + y1) (x5 + 1) σ) else (let σ7 : Wd := sF σ 41 32 x9
  let σ8 : Wd := sF σ7 41 29 x6
  let σ9 : Wd := sF σ8 41 30 x7
  let σ10 : Wd := sF σ9 41 31 x8
  KB x2 x3 (y0 + y1) (x5 + 1) σ10)
def f_X10_goesThrough_L24 (N : Nat) (KO131 : Int32 → Wd → Option (Int32 × Wd)) : Nat → Int32 → Int32 → Int32 → Int32 → Wd → Option (Int32 × Wd)
  | 0, _, _, _, _, _ => none
  | n + 1, x2, x3, x4, x5, σ => if ((2 * x3) * x3) ≤ x5 then (KO131 x4 σ) else (if x3 = 0 then none else (if x3 = 0 then none else (if x3 = 0 then none else (if (x3 * x3) = 0 then none else ((f_X10_evaluates N (x5 - x5 / x3 * x3) ((x5 / x3) - (x5 / x3) / x3 * x3) (x5 / (x3 * x3)) σ).bind fun σ4 => (f_X10_settlesAll N σ4).bind fun σ5 => (f_X10_lastOut N σ5).bind fun p6 => if x2 < p6.1 then (f_X10_goesThrough_J89 N (f_X10_goesThrough_L24 N KO131 n) KO131 x2 x3 x5 (x5 - x5 / x3 * x3) ((x5 / x3) - (x5 / x3) / x3 * x3) (x5 / (x3 * x3)) p6.1 x4 0 p6.2) else (f_X10_goesThrough_J89 N (f_X10_goesThrough_L24 N KO131 n) KO131 x2 x3 x5 (x5 - x5 / x3 * x3) ((x5 / x3) - (x5 / x3) / x3 * x3) (x5 / (x3 * x3)) p6.1 x4 1 p6.2))))))
def f_X10_goesThrough_J131 (N : Nat) (x4 : Int32) (σ : Wd) : Option (Int32 × Wd) :=
  some (x4, σ)
def f_X10_goesThrough (N : Nat) (a1 : Int32) (a2 : Int32) (σ : Wd) : Option (Int32 × Wd) :=
  (f_X10_laysPlan N a1 σ).bind fun σ1 => (f_X10_width N a1 σ1).bind fun p2 => let σ3 : Wd := sF p2.2 41 32 (-1)
  f_X10_goesThrough_L24 N (f_X10_goesThrough_J131 N) N a2 (1 <<< (p2.1 &&& 31)) 0 0 σ3
def a_X10_goesThrough (N : Nat) : List Value → Wd → Option (Int32 × Wd) := fun as σ => kSE 41 as (fun r0 => kSI r0 (fun b1 r1 => kSI r1 (fun b2 r2 => kS0 r2 (f_X10_goesThrough N b1 b2 σ)))) (none)
def ct_X10_goesThrough (N : Nat) : List (Nat × Cal) := [(260, 2, 10, .inr (.inr (a_X10_laysPlan N))), (167, 2, 10, .inl (a_X10_width N)), (277, 4, 10, .inr (.inr (a_X10_evaluates N))), (281, 1, 10, .inr (.inr (a_X10_settlesAll N))), (266, 1, 10, .inl (a_X10_lastOut N))]
set_option maxRecDepth 200000 in
theorem md_X10_goesThrough (N : Nat) : MDOK T_X10_goesThrough ft_X10 lt_X10 (ct_X10_goesThrough N) cX10_goesThrough RX10 29 := ⟨tc_X10_goesThrough, fc_X10, lc_X10, List.forall_mem_cons.mpr ⟨Or.inl ⟨yX10_laysPlan, cX10_laysPlan, 2, none, 28, k_X10_260, Nat.le_of_ble_eq_true rfl, C_X10_laysPlan N⟩, List.forall_mem_cons.mpr ⟨Or.inl ⟨yX10_width, cX10_width, 2, (some .int), 2, k_X10_167, Nat.le_of_ble_eq_true rfl, C_X10_width N⟩, List.forall_mem_cons.mpr ⟨Or.inl ⟨yX10_evaluates, cX10_evaluates, 7, none, 1, k_X10_277, Nat.le_of_ble_eq_true rfl, C_X10_evaluates N⟩, List.forall_mem_cons.mpr ⟨Or.inl ⟨yX10_settlesAll, cX10_settlesAll, 7, none, 1, k_X10_281, Nat.le_of_ble_eq_true rfl, C_X10_settlesAll N⟩, List.forall_mem_cons.mpr ⟨Or.inl ⟨yX10_lastOut, cX10_lastOut, 3, (some .int), 1, k_X10_266, Nat.le_of_ble_eq_true rfl, C_X10_lastOut N⟩, (fun _ z => absurd z List.not_mem_nil)⟩⟩⟩⟩⟩⟩
set_option maxRecDepth 200000 in
theorem g_X10_goesThrough_J89 (N : Nat) (KB : Int32 → Int32 → Int32 → Int32 → Wd → Option (Int32 × Wd)) (hKB : ∀ (x2 : Int32) (x3 : Int32) (x4 : Int32) (x5 : Int32) (σ : Wd), GO cX10_goesThrough RX10 10 29 sc0 rI nJ0 nV0 (KB x2 x3 x4 x5 σ) 24 (mkp 0 10 [(0, .ref 41), (2, .int x2), (3, .int x3), (4, .int x4), (5, .int x5)]) [] σ) (KO131 : Int32 → Wd → Option (Int32 × Wd)) (hKO131 : ∀ (x4 : Int32) (σ : Wd), GO cX10_goesThrough RX10 10 29 sc0 rI nJ0 nV0 (KO131 x4 σ) 131 (mkp 0 10 [(4, .int x4)]) [] σ) (x2 : Int32) (x3 : Int32) (x5 : Int32) (x6 : Int32) (x7 : Int32) (x8 : Int32) (x9 : Int32) (y0 : Int32) (y1 : Int32) (σ : Wd) : GO cX10_goesThrough RX10 10 29 sc0 rI nJ0 nV0 (f_X10_goesThrough_J89 N KB KO131 x2 x3 x5 x6 x7 x8 x9 y0 y1 σ) 89 (mkp 0 10 [(0, .ref 41), (2, .int x2), (3, .int x3), (5, .int x5), (6, .int x6), (7, .int x7), (8, .int x8), (9, .int x9)]) [.int y1, .int y0] σ := by
  exact (by refine GO.to (md_X10_goesThrough N) (kl := [(24, fun vs st σ => kS0 st (kA 0 41 vs (kI 2 vs (fun x2 => kI 3 vs (fun x3 => kI 4 vs (fun x4 => kI 5 vs (fun x5 => KB x2 x3 x4 x5 σ)))))))]) (List.forall_mem_cons.mpr ⟨fun vs st σ => go_kS0 (go_kA (fun h0 => go_kI (fun x2 h2 => go_kI (fun x3 h3 => go_kI (fun x4 h4 => go_kI (fun x5 h5 => GO.pat [(0, .ref 41), (2, .int x2), (3, .int x3), (4, .int x4), (5, .int x5)] ⟨h0, h2, h3, h4, h5, trivial⟩ (hKB x2 x3 x4 x5 σ))))))), (fun _ z => absurd z List.not_mem_nil)⟩) 83 ?_ ?_ <;> rfl)
set_option maxRecDepth 200000 in
theorem g_X10_goesThrough_L24 (N : Nat) (KO131 : Int32 → Wd → Option (Int32 × Wd)) (hKO131 : ∀ (x4 : Int32) (σ : Wd), GO cX10_goesThrough RX10 10 29 sc0 rI nJ0 nV0 (KO131 x4 σ) 131 (mkp 0 10 [(4, .int x4)]) [] σ) : ∀ (n : Nat), ∀ (x2 : Int32) (x3 : Int32) (x4 : Int32) (x5 : Int32) (σ : Wd), GO cX10_goesThrough RX10 10 29 sc0 rI nJ0 nV0 (f_X10_goesThrough_L24 N KO131 n x2 x3 x4 x5 σ) 24 (mkp 0 10 [(0, .ref 41), (2, .int x2), (3, .int x3), (4, .int x4), (5, .int x5)]) [] σ
  | 0, x2, x3, x4, x5, σ => GO.none
  | n + 1, x2, x3, x4, x5, σ => by
    exact (by refine GO.to (md_X10_goesThrough N) (kl := [(131, fun vs st σ => kS0 st (kI 4 vs (fun x4 => KO131 x4 σ))), (89, fun vs st σ => kStii st (fun y0 y1 => kA 0 41 vs (kI 2 vs (fun x2 => kI 3 vs (fun x3 => kI 5 vs (fun x5 => kI 6 vs (fun x6 => kI 7 vs (fun x7 => kI 8 vs (fun x8 => kI 9 vs (fun x9 => f_X10_goesThrough_J89 N (f_X10_goesThrough_L24 N KO131 n) KO131 x2 x3 x5 x6 x7 x8 x9 y0 y1 σ))))))))))]) (List.forall_mem_cons.mpr ⟨fun vs st σ => go_kS0 (go_kI (fun x4 h4 => GO.pat [(4, .int x4)] ⟨h4, trivial⟩ (hKO131 x4 σ))), List.forall_mem_cons.mpr ⟨fun vs st σ => go_kStii (fun y0 y1 => go_kA (fun h0 => go_kI (fun x2 h2 => go_kI (fun x3 h3 => go_kI (fun x5 h5 => go_kI (fun x6 h6 => go_kI (fun x7 h7 => go_kI (fun x8 h8 => go_kI (fun x9 h9 => GO.pat [(0, .ref 41), (2, .int x2), (3, .int x3), (5, .int x5), (6, .int x6), (7, .int x7), (8, .int x8), (9, .int x9)] ⟨h0, h2, h3, h5, h6, h7, h8, h9, trivial⟩ (g_X10_goesThrough_J89 N (f_X10_goesThrough_L24 N KO131 n) (g_X10_goesThrough_L24 N KO131 hKO131 n) KO131 hKO131 x2 x3 x5 x6 x7 x8 x9 y0 y1 σ)))))))))), (fun _ z => absurd z List.not_mem_nil)⟩⟩) 83 ?_ ?_ <;> rfl)
set_option maxRecDepth 200000 in
theorem g_X10_goesThrough_J131 (N : Nat) (x4 : Int32) (σ : Wd) : GO cX10_goesThrough RX10 10 29 sc0 rI nJ0 nV0 (f_X10_goesThrough_J131 N x4 σ) 131 (mkp 0 10 [(4, .int x4)]) [] σ := by
  exact (by refine GO.to (md_X10_goesThrough N) (kl := []) ((fun _ z => absurd z List.not_mem_nil)) 83 ?_ ?_ <;> rfl)
set_option maxRecDepth 200000 in
theorem C_X10_goesThrough (N : Nat) : CTI 29 yX10_goesThrough cX10_goesThrough 10 (some .int) (a_X10_goesThrough N) := by
  refine CTI.of (own := RX10) (by decide) rfl (fun as σ r h => ?_)
  unfold a_X10_goesThrough at h
  rcases kSE_s h with ⟨r0, rfl, h0⟩ | hn
  ·
    obtain ⟨b1, r1, rfl, h1⟩ := kSI_s h0
    obtain ⟨b2, r2, rfl, h2⟩ := kSI_s h1
    obtain ⟨rfl, h9⟩ := kS0_s h2
    exact ⟨Nat.le_of_ble_eq_true rfl, by refine GO.to (md_X10_goesThrough N) (kl := [(24, fun vs st σ => kS0 st (kA 0 41 vs (kI 2 vs (fun x2 => kI 3 vs (fun x3 => kI 4 vs (fun x4 => kI 5 vs (fun x5 => f_X10_goesThrough_L24 N (f_X10_goesThrough_J131 N) N x2 x3 x4 x5 σ)))))))]) (List.forall_mem_cons.mpr ⟨fun vs st σ => go_kS0 (go_kA (fun h0 => go_kI (fun x2 h2 => go_kI (fun x3 h3 => go_kI (fun x4 h4 => go_kI (fun x5 h5 => GO.pat [(0, .ref 41), (2, .int x2), (3, .int x3), (4, .int x4), (5, .int x5)] ⟨h0, h2, h3, h4, h5, trivial⟩ (g_X10_goesThrough_L24 N (f_X10_goesThrough_J131 N) (g_X10_goesThrough_J131 N) N x2 x3 x4 x5 σ))))))), (fun _ z => absurd z List.not_mem_nil)⟩) 83 ?_ ?_ <;> rfl⟩
  cases hn
def T_X10_shared : List (Nat × Ent) := [(0, .aload_n 0, 1, []), (1, .iload_n 1, 2, []), (2, .invokevirtual 163, 5, []), (5, .ifCond .eq 11, 8, [16]), (8, .aload_n 0, 9, []), (9, .iload_n 2, 10, []), (10, .invokevirtual 163, 13, []), (13, .ifCond .ne 5, 16, [18]), (16, .iconst (-1), 17, []), (17, .ireturn, 18, []), (18, .aload_n 0, 19, []), (19, .iload_n 1, 20, []), (20, .invokevirtual 260, 23, []), (23, .aload_n 0, 24, []), (24, .aload_n 0, 25, []), (25, .getfield 18, 28, []), (28, .bipush 8, 30, []), (30, .iload_n 2, 31, []), (31, .imul, 32, []), (32, .aload_n 0, 33, []), (33, .getfield 21, 36, []), (36, .iload_n 2, 37, []), (37, .iaload, 38, []), (38, .invokevirtual 242, 41, []), (41, .aload_n 0, 42, []), (42, .iconst 2, 43, []), (43, .invokevirtual 246, 46, []), (46, .aload_n 0, 47, []), (47, .iconst (-1), 48, []), (48, .iconst 3, 49, []), (49, .invokevirtual 263, 52, []), (52, .ireturn, 53, [])]
set_option maxRecDepth 200000 in
theorem tc_X10_shared : T_X10_shared.all (chk cX10_shared) = true := by decide +kernel
def f_X10_shared (N : Nat) (a1 : Int32) (a2 : Int32) (σ : Wd) : Option (Int32 × Wd) :=
  (f_X10_isPlan N a1 σ).bind fun p1 => if p1.1 = 0 then (some ((-1), p1.2)) else ((f_X10_isPlan N a2 p1.2).bind fun p2 => if p2.1 = 0 then (some ((-1), p2.2)) else ((f_X10_laysPlan N a1 p2.2).bind fun σ3 => (xld σ3 45 12 a2).bind fun v4 => (f_X10_builds N 44 96 (8 * a2) v4 σ3).bind fun σ5 => (f_X10_marks N 2 σ5).bind fun σ6 => (f_X10_manyUsed N (-1) 3 σ6).bind fun p7 => some (p7.1, p7.2)))
def a_X10_shared (N : Nat) : List Value → Wd → Option (Int32 × Wd) := fun as σ => kSE 41 as (fun r0 => kSI r0 (fun b1 r1 => kSI r1 (fun b2 r2 => kS0 r2 (f_X10_shared N b1 b2 σ)))) (none)
def ct_X10_shared (N : Nat) : List (Nat × Cal) := [(163, 2, 10, .inl (a_X10_isPlan N)), (260, 2, 10, .inr (.inr (a_X10_laysPlan N))), (242, 4, 10, .inr (.inr (a_X10_builds N))), (246, 2, 10, .inr (.inr (a_X10_marks N))), (263, 3, 10, .inl (a_X10_manyUsed N))]
set_option maxRecDepth 200000 in
theorem md_X10_shared (N : Nat) : MDOK T_X10_shared ft_X10 lt_X10 (ct_X10_shared N) cX10_shared RX10 29 := ⟨tc_X10_shared, fc_X10, lc_X10, List.forall_mem_cons.mpr ⟨Or.inl ⟨yX10_isPlan, cX10_isPlan, 2, (some .boolean), 2, k_X10_163, Nat.le_of_ble_eq_true rfl, C_X10_isPlan N⟩, List.forall_mem_cons.mpr ⟨Or.inl ⟨yX10_laysPlan, cX10_laysPlan, 2, none, 28, k_X10_260, Nat.le_of_ble_eq_true rfl, C_X10_laysPlan N⟩, List.forall_mem_cons.mpr ⟨Or.inl ⟨yX10_builds, cX10_builds, 9, none, 26, k_X10_242, Nat.le_of_ble_eq_true rfl, C_X10_builds N⟩, List.forall_mem_cons.mpr ⟨Or.inl ⟨yX10_marks, cX10_marks, 4, none, 1, k_X10_246, Nat.le_of_ble_eq_true rfl, C_X10_marks N⟩, List.forall_mem_cons.mpr ⟨Or.inl ⟨yX10_manyUsed, cX10_manyUsed, 5, (some .int), 1, k_X10_263, Nat.le_of_ble_eq_true rfl, C_X10_manyUsed N⟩, (fun _ z => absurd z List.not_mem_nil)⟩⟩⟩⟩⟩⟩
set_option maxRecDepth 200000 in
theorem C_X10_shared (N : Nat) : CTI 29 yX10_shared cX10_shared 3 (some .int) (a_X10_shared N) := by
  refine CTI.of (own := RX10) (by decide) rfl (fun as σ r h => ?_)
  unfold a_X10_shared at h
  rcases kSE_s h with ⟨r0, rfl, h0⟩ | hn
  ·
    obtain ⟨b1, r1, rfl, h1⟩ := kSI_s h0
    obtain ⟨b2, r2, rfl, h2⟩ := kSI_s h1
    obtain ⟨rfl, h9⟩ := kS0_s h2
    exact ⟨Nat.le_of_ble_eq_true rfl, by refine GO.to (md_X10_shared N) (kl := []) ((fun _ z => absurd z List.not_mem_nil)) 37 ?_ ?_ <;> rfl⟩
  cases hn
def T_X10_goesOn : List (Nat × Ent) := [(0, .iload_n 2, 1, []), (1, .ifCond .ne 11, 4, [12]), (4, .aload_n 0, 5, []), (5, .iload_n 1, 6, []), (6, .iload 4, 8, []), (8, .invokevirtual 313, 11, []), (11, .return_, 12, []), (12, .iconst 0, 13, []), (13, .istore 5, 15, []), (15, .iload 5, 17, []), (17, .iconst 4, 18, []), (18, .if_icmp .ge 67, 21, [85]), (21, .iconst 1, 22, []), (22, .istore 6, 24, []), (24, .iload 6, 26, []), (26, .iconst 3, 27, []), (27, .if_icmp .gt 52, 30, [79]), (30, .iload 6, 32, []), (32, .iload_n 2, 33, []), (33, .if_icmp .gt 46, 36, [79]), (36, .iload_n 3, 37, []), (37, .iload 5, 39, []), (39, .invokestatic 269, 42, []), (42, .ifCond .eq 37, 45, [79]), (45, .aload_n 0, 46, []), (46, .getfield 75, 49, []), (49, .iload_n 1, 50, []), (50, .bipush 10, 52, []), (52, .iload 5, 54, []), (54, .imul, 55, []), (55, .iload 6, 57, []), (57, .iadd, 58, []), (58, .iastore, 59, []), (59, .aload_n 0, 60, []), (60, .iload_n 1, 61, []), (61, .iconst 1, 62, []), (62, .iadd, 63, []), (63, .iload_n 2, 64, []), (64, .iload 6, 66, []), (66, .isub, 67, []), (67, .iload_n 3, 68, []), (68, .iload 4, 70, []), (70, .invokevirtual 317, 73, []), (73, .iinc 6 1, 76, []), (76, .goto (-52), 79, [24]), (79, .iinc 5 1, 82, []), (82, .goto (-67), 85, [15]), (85, .return_, 86, [])]
set_option maxRecDepth 200000 in
theorem tc_X10_goesOn : T_X10_goesOn.all (chk cX10_goesOn) = true := by decide +kernel
def f_X10_goesOn_L24 (N : Nat) (REC : Int32 → Int32 → Int32 → Int32 → Wd → Option Wd) (KO79 : Int32 → Int32 → Int32 → Int32 → Int32 → Wd → Option Wd) : Nat → Int32 → Int32 → Int32 → Int32 → Int32 → Int32 → Wd → Option Wd
  | 0, _, _, _, _, _, _, _ => none
  | n + 1, x1, x2, x3, x4, x5, x6, σ => if 3 < x6 then (KO79 x1 x2 x3 x4 x5 σ) else (if x2 < x6 then (KO79 x1 x2 x3 x4 x5 σ) else ((f_X10_has N x3 x5 σ).bind fun p2 => if p2.1 = 0 then (KO79 x1 x2 x3 x4 x5 p2.2) else ((xst p2.2 63 8 x1 ((10 * x5) + x6)).bind fun σ3 => (REC (x1 + 1) (x2 - x6) x3 x4 σ3).bind fun σ4 => f_X10_goesOn_L24 N REC KO79 n x1 x2 x3 x4 x5 (x6 + 1) σ4)))
def f_X10_goesOn_J79 (N : Nat) (REC : Int32 → Int32 → Int32 → Int32 → Wd → Option Wd) (KB : Int32 → Int32 → Int32 → Int32 → Int32 → Wd → Option Wd) (KO85 : Wd → Option Wd) (x1 : Int32) (x2 : Int32) (x3 : Int32) (x4 : Int32) (x5 : Int32) (σ : Wd) : Option Wd :=
  KB x1 x2 x3 x4 (x5 + 1) σ
def f_X10_goesOn_L15 (N : Nat) (REC : Int32 → Int32 → Int32 → Int32 → Wd → Option Wd) (KO85 : Wd → Option Wd) : Nat → Int32 → Int32 → Int32 → Int32 → Int32 → Wd → Option Wd
  | 0, _, _, _, _, _, _ => none
  | n + 1, x1, x2, x3, x4, x5, σ => if 4 ≤ x5 then (KO85 σ) else (f_X10_goesOn_L24 N REC (f_X10_goesOn_J79 N REC (f_X10_goesOn_L15 N REC KO85 n) KO85) N x1 x2 x3 x4 x5 1 σ)
def f_X10_goesOn_J85 (N : Nat) (REC : Int32 → Int32 → Int32 → Int32 → Wd → Option Wd) (σ : Wd) : Option Wd :=
  some σ
def f_X10_goesOn (N : Nat) : Nat → Int32 → Int32 → Int32 → Int32 → Wd → Option Wd
  | 0, _, _, _, _, _ => none
  | d + 1, a1, a2, a3, a4, σ => if a2 = 0 then ((f_X10_judges N a1 a4 σ).bind fun σ1 => some σ1) else (f_X10_goesOn_L15 N (f_X10_goesOn N d) (f_X10_goesOn_J85 N (f_X10_goesOn N d)) N a1 a2 a3 a4 0 σ)
def aR_X10_goesOn (REC : Int32 → Int32 → Int32 → Int32 → Wd → Option Wd) : List Value → Wd → Option Wd := fun as σ => kSE 41 as (fun r0 => kSI r0 (fun b1 r1 => kSI r1 (fun b2 r2 => kSI r2 (fun b3 r3 => kSI r3 (fun b4 r4 => kS0 r4 (REC b1 b2 b3 b4 σ)))))) (none)
def a_X10_goesOn (N d : Nat) : List Value → Wd → Option Wd := aR_X10_goesOn (f_X10_goesOn N d)
set_option maxRecDepth 200000 in
theorem k_X10_313 : calchk RX10 313 3 10 yX10_judges cX10_judges 6 none = true := by decide +kernel
set_option maxRecDepth 200000 in
theorem k_X10_317 : calchk RX10 317 5 10 yX10_goesOn cX10_goesOn 7 none = true := by decide +kernel
def ct_X10_goesOn (N : Nat) (REC : Int32 → Int32 → Int32 → Int32 → Wd → Option Wd) : List (Nat × Cal) := [(313, 3, 10, .inr (.inr (a_X10_judges N))), (269, 2, 0, .inl (a_X10_has N)), (317, 5, 10, .inr (.inr (aR_X10_goesOn REC)))]
set_option maxRecDepth 200000 in
theorem md_X10_goesOn (N : Nat) (REC : Int32 → Int32 → Int32 → Int32 → Wd → Option Wd) (lv0 : Nat) (hlv : 28 ≤ lv0) (hREC : CTV lv0 yX10_goesOn cX10_goesOn 7 none (aR_X10_goesOn REC)) : MDOK T_X10_goesOn ft_X10 lt_X10 (ct_X10_goesOn N REC) cX10_goesOn RX10 (lv0 + 1) := ⟨tc_X10_goesOn, fc_X10, lc_X10, List.forall_mem_cons.mpr ⟨Or.inl ⟨yX10_judges, cX10_judges, 6, none, 28, k_X10_313, by omega, C_X10_judges N⟩, List.forall_mem_cons.mpr ⟨Or.inl ⟨yX10_has, cX10_has, 2, (some .boolean), 1, k_X10_269, by omega, C_X10_has N⟩, List.forall_mem_cons.mpr ⟨Or.inl ⟨yX10_goesOn, cX10_goesOn, 7, none, lv0, k_X10_317, Nat.le_refl _, hREC⟩, (fun _ z => absurd z List.not_mem_nil)⟩⟩⟩⟩
set_option maxRecDepth 200000 in
theorem g_X10_goesOn_L24 (N : Nat) (REC : Int32 → Int32 → Int32 → Int32 → Wd → Option Wd) {lv : Nat} (M : MDOK T_X10_goesOn ft_X10 lt_X10 (ct_X10_goesOn N REC) cX10_goesOn RX10 lv) (KO79 : Int32 → Int32 → Int32 → Int32 → Int32 → Wd → Option Wd) (hKO79 : ∀ (x1 : Int32) (x2 : Int32) (x3 : Int32) (x4 : Int32) (x5 : Int32) (σ : Wd), GO cX10_goesOn RX10 7 lv sc0 nI0 nJ0 some (KO79 x1 x2 x3 x4 x5 σ) 79 (mkp 0 7 [(0, .ref 41), (1, .int x1), (2, .int x2), (3, .int x3), (4, .int x4), (5, .int x5)]) [] σ) : ∀ (n : Nat), ∀ (x1 : Int32) (x2 : Int32) (x3 : Int32) (x4 : Int32) (x5 : Int32) (x6 : Int32) (σ : Wd), GO cX10_goesOn RX10 7 lv sc0 nI0 nJ0 some (f_X10_goesOn_L24 N REC KO79 n x1 x2 x3 x4 x5 x6 σ) 24 (mkp 0 7 [(0, .ref 41), (1, .int x1), (2, .int x2), (3, .int x3), (4, .int x4), (5, .int x5), (6, .int x6)]) [] σ
  | 0, x1, x2, x3, x4, x5, x6, σ => GO.none
  | n + 1, x1, x2, x3, x4, x5, x6, σ => by
    exact (by refine GO.to M (kl := [(79, fun vs st σ => kS0 st (kA 0 41 vs (kI 1 vs (fun x1 => kI 2 vs (fun x2 => kI 3 vs (fun x3 => kI 4 vs (fun x4 => kI 5 vs (fun x5 => KO79 x1 x2 x3 x4 x5 σ)))))))), (24, fun vs st σ => kS0 st (kA 0 41 vs (kI 1 vs (fun x1 => kI 2 vs (fun x2 => kI 3 vs (fun x3 => kI 4 vs (fun x4 => kI 5 vs (fun x5 => kI 6 vs (fun x6 => f_X10_goesOn_L24 N REC KO79 n x1 x2 x3 x4 x5 x6 σ)))))))))]) (List.forall_mem_cons.mpr ⟨fun vs st σ => go_kS0 (go_kA (fun h0 => go_kI (fun x1 h1 => go_kI (fun x2 h2 => go_kI (fun x3 h3 => go_kI (fun x4 h4 => go_kI (fun x5 h5 => GO.pat [(0, .ref 41), (1, .int x1), (2, .int x2), (3, .int x3), (4, .int x4), (5, .int x5)] ⟨h0, h1, h2, h3, h4, h5, trivial⟩ (hKO79 x1 x2 x3 x4 x5 σ)))))))), List.forall_mem_cons.mpr ⟨fun vs st σ => go_kS0 (go_kA (fun h0 => go_kI (fun x1 h1 => go_kI (fun x2 h2 => go_kI (fun x3 h3 => go_kI (fun x4 h4 => go_kI (fun x5 h5 => go_kI (fun x6 h6 => GO.pat [(0, .ref 41), (1, .int x1), (2, .int x2), (3, .int x3), (4, .int x4), (5, .int x5), (6, .int x6)] ⟨h0, h1, h2, h3, h4, h5, h6, trivial⟩ (g_X10_goesOn_L24 N REC M KO79 hKO79 n x1 x2 x3 x4 x5 x6 σ))))))))), (fun _ z => absurd z List.not_mem_nil)⟩⟩) 53 ?_ ?_ <;> rfl)
set_option maxRecDepth 200000 in
theorem g_X10_goesOn_J79 (N : Nat) (REC : Int32 → Int32 → Int32 → Int32 → Wd → Option Wd) {lv : Nat} (M : MDOK T_X10_goesOn ft_X10 lt_X10 (ct_X10_goesOn N REC) cX10_goesOn RX10 lv) (KB : Int32 → Int32 → Int32 → Int32 → Int32 → Wd → Option Wd) (hKB : ∀ (x1 : Int32) (x2 : Int32) (x3 : Int32) (x4 : Int32) (x5 : Int32) (σ : Wd), GO cX10_goesOn RX10 7 lv sc0 nI0 nJ0 some (KB x1 x2 x3 x4 x5 σ) 15 (mkp 0 7 [(0, .ref 41), (1, .int x1), (2, .int x2), (3, .int x3), (4, .int x4), (5, .int x5)]) [] σ) (KO85 : Wd → Option Wd) (hKO85 : ∀ (σ : Wd), GO cX10_goesOn RX10 7 lv sc0 nI0 nJ0 some (KO85 σ) 85 (mkp 0 7 []) [] σ) (x1 : Int32) (x2 : Int32) (x3 : Int32) (x4 : Int32) (x5 : Int32) (σ : Wd) : GO cX10_goesOn RX10 7 lv sc0 nI0 nJ0 some (f_X10_goesOn_J79 N REC KB KO85 x1 x2 x3 x4 x5 σ) 79 (mkp 0 7 [(0, .ref 41), (1, .int x1), (2, .int x2), (3, .int x3), (4, .int x4), (5, .int x5)]) [] σ := by
  exact (by refine GO.to M (kl := [(15, fun vs st σ => kS0 st (kA 0 41 vs (kI 1 vs (fun x1 => kI 2 vs (fun x2 => kI 3 vs (fun x3 => kI 4 vs (fun x4 => kI 5 vs (fun x5 => KB x1 x2 x3 x4 x5 σ))))))))]) (List.forall_mem_cons.mpr ⟨fun vs st σ => go_kS0 (go_kA (fun h0 => go_kI (fun x1 h1 => go_kI (fun x2 h2 => go_kI (fun x3 h3 => go_kI (fun x4 h4 => go_kI (fun x5 h5 => GO.pat [(0, .ref 41), (1, .int x1), (2, .int x2), (3, .int x3), (4, .int x4), (5, .int x5)] ⟨h0, h1, h2, h3, h4, h5, trivial⟩ (hKB x1 x2 x3 x4 x5 σ)))))))), (fun _ z => absurd z List.not_mem_nil)⟩) 53 ?_ ?_ <;> rfl)
set_option maxRecDepth 200000 in
theorem g_X10_goesOn_L15 (N : Nat) (REC : Int32 → Int32 → Int32 → Int32 → Wd → Option Wd) {lv : Nat} (M : MDOK T_X10_goesOn ft_X10 lt_X10 (ct_X10_goesOn N REC) cX10_goesOn RX10 lv) (KO85 : Wd → Option Wd) (hKO85 : ∀ (σ : Wd), GO cX10_goesOn RX10 7 lv sc0 nI0 nJ0 some (KO85 σ) 85 (mkp 0 7 []) [] σ) : ∀ (n : Nat), ∀ (x1 : Int32) (x2 : Int32) (x3 : Int32) (x4 : Int32) (x5 : Int32) (σ : Wd), GO cX10_goesOn RX10 7 lv sc0 nI0 nJ0 some (f_X10_goesOn_L15 N REC KO85 n x1 x2 x3 x4 x5 σ) 15 (mkp 0 7 [(0, .ref 41), (1, .int x1), (2, .int x2), (3, .int x3), (4, .int x4), (5, .int x5)]) [] σ
  | 0, x1, x2, x3, x4, x5, σ => GO.none
  | n + 1, x1, x2, x3, x4, x5, σ => by
    exact (by refine GO.to M (kl := [(85, fun vs st σ => kS0 st (KO85 σ)), (24, fun vs st σ => kS0 st (kA 0 41 vs (kI 1 vs (fun x1 => kI 2 vs (fun x2 => kI 3 vs (fun x3 => kI 4 vs (fun x4 => kI 5 vs (fun x5 => kI 6 vs (fun x6 => f_X10_goesOn_L24 N REC (f_X10_goesOn_J79 N REC (f_X10_goesOn_L15 N REC KO85 n) KO85) N x1 x2 x3 x4 x5 x6 σ)))))))))]) (List.forall_mem_cons.mpr ⟨fun vs st σ => go_kS0 (GO.pat [] trivial (hKO85 σ)), List.forall_mem_cons.mpr ⟨fun vs st σ => go_kS0 (go_kA (fun h0 => go_kI (fun x1 h1 => go_kI (fun x2 h2 => go_kI (fun x3 h3 => go_kI (fun x4 h4 => go_kI (fun x5 h5 => go_kI (fun x6 h6 => GO.pat [(0, .ref 41), (1, .int x1), (2, .int x2), (3, .int x3), (4, .int x4), (5, .int x5), (6, .int x6)] ⟨h0, h1, h2, h3, h4, h5, h6, trivial⟩ (g_X10_goesOn_L24 N REC M (f_X10_goesOn_J79 N REC (f_X10_goesOn_L15 N REC KO85 n) KO85) (g_X10_goesOn_J79 N REC M (f_X10_goesOn_L15 N REC KO85 n) (g_X10_goesOn_L15 N REC M KO85 hKO85 n) KO85 hKO85) N x1 x2 x3 x4 x5 x6 σ))))))))), (fun _ z => absurd z List.not_mem_nil)⟩⟩) 53 ?_ ?_ <;> rfl)
set_option maxRecDepth 200000 in
theorem g_X10_goesOn_J85 (N : Nat) (REC : Int32 → Int32 → Int32 → Int32 → Wd → Option Wd) {lv : Nat} (M : MDOK T_X10_goesOn ft_X10 lt_X10 (ct_X10_goesOn N REC) cX10_goesOn RX10 lv) (σ : Wd) : GO cX10_goesOn RX10 7 lv sc0 nI0 nJ0 some (f_X10_goesOn_J85 N REC σ) 85 (mkp 0 7 []) [] σ := by
  exact (by refine GO.to M (kl := []) ((fun _ z => absurd z List.not_mem_nil)) 53 ?_ ?_ <;> rfl)
set_option maxRecDepth 200000 in
theorem C_X10_goesOn (N : Nat) : ∀ d : Nat, CTV (29 + d) yX10_goesOn cX10_goesOn 7 none (a_X10_goesOn N d)
  | 0 => by
    refine CTV.of (own := RX10) (by decide) rfl (fun as σ r h => ?_)
    unfold a_X10_goesOn aR_X10_goesOn at h
    rcases kSE_s h with ⟨r0, rfl, h0⟩ | hn
    ·
      obtain ⟨b1, r1, rfl, h1⟩ := kSI_s h0
      obtain ⟨b2, r2, rfl, h2⟩ := kSI_s h1
      obtain ⟨b3, r3, rfl, h3⟩ := kSI_s h2
      obtain ⟨b4, r4, rfl, h4⟩ := kSI_s h3
      obtain ⟨rfl, h9⟩ := kS0_s h4
      exact ⟨Nat.le_of_ble_eq_true rfl, GO.none⟩
    cases hn
  | d + 1 => by
    refine CTV.of (own := RX10) (by decide) rfl (fun as σ r h => ?_)
    unfold a_X10_goesOn aR_X10_goesOn at h
    rcases kSE_s h with ⟨r0, rfl, h0⟩ | hn
    ·
      obtain ⟨b1, r1, rfl, h1⟩ := kSI_s h0
      obtain ⟨b2, r2, rfl, h2⟩ := kSI_s h1
      obtain ⟨b3, r3, rfl, h3⟩ := kSI_s h2
      obtain ⟨b4, r4, rfl, h4⟩ := kSI_s h3
      obtain ⟨rfl, h9⟩ := kS0_s h4
      exact ⟨Nat.le_of_ble_eq_true rfl, by refine GO.to (md_X10_goesOn N (f_X10_goesOn N d) (29 + d) (by omega) (C_X10_goesOn N d)) (kl := [(15, fun vs st σ => kS0 st (kA 0 41 vs (kI 1 vs (fun x1 => kI 2 vs (fun x2 => kI 3 vs (fun x3 => kI 4 vs (fun x4 => kI 5 vs (fun x5 => f_X10_goesOn_L15 N (f_X10_goesOn N d) (f_X10_goesOn_J85 N (f_X10_goesOn N d)) N x1 x2 x3 x4 x5 σ))))))))]) (List.forall_mem_cons.mpr ⟨fun vs st σ => go_kS0 (go_kA (fun h0 => go_kI (fun x1 h1 => go_kI (fun x2 h2 => go_kI (fun x3 h3 => go_kI (fun x4 h4 => go_kI (fun x5 h5 => GO.pat [(0, .ref 41), (1, .int x1), (2, .int x2), (3, .int x3), (4, .int x4), (5, .int x5)] ⟨h0, h1, h2, h3, h4, h5, trivial⟩ (g_X10_goesOn_L15 N (f_X10_goesOn N d) (md_X10_goesOn N (f_X10_goesOn N d) (29 + d) (by omega) (C_X10_goesOn N d)) (f_X10_goesOn_J85 N (f_X10_goesOn N d)) (g_X10_goesOn_J85 N (f_X10_goesOn N d) (md_X10_goesOn N (f_X10_goesOn N d) (29 + d) (by omega) (C_X10_goesOn N d))) N x1 x2 x3 x4 x5 σ)))))))), (fun _ z => absurd z List.not_mem_nil)⟩) 53 ?_ ?_ <;> rfl⟩
    cases hn
def T_X10_into : List (Nat × Ent) := [(0, .iload_n 1, 1, []), (1, .invokestatic 345, 4, []), (4, .ifCond .eq 11, 7, [15]), (7, .aload_n 0, 8, []), (8, .iload_n 2, 9, []), (9, .invokevirtual 163, 12, []), (12, .ifCond .ne 5, 15, [17]), (15, .iconst (-1), 16, []), (16, .ireturn, 17, []), (17, .aload_n 0, 18, []), (18, .getfield 88, 21, []), (21, .iload_n 1, 22, []), (22, .iaload, 23, []), (23, .ifCond .eq 20, 26, [43]), (26, .aload_n 0, 27, []), (27, .getfield 88, 30, []), (30, .iload_n 1, 31, []), (31, .iaload, 32, []), (32, .ifCond .ge 8, 35, [40]), (35, .bipush (-11), 37, []), (37, .goto 5, 40, [42]), (40, .bipush (-12), 42, []), (42, .ireturn, 43, []), (43, .aload_n 0, 44, []), (44, .iload_n 2, 45, []), (45, .invokevirtual 260, 48, []), (48, .aload_n 0, 49, []), (49, .getfield 91, 52, []), (52, .iload_n 1, 53, []), (53, .iaload, 54, []), (54, .aload_n 0, 55, []), (55, .getfield 236, 58, []), (58, .if_icmp .ge 12, 61, [70]), (61, .aload_n 0, 62, []), (62, .getfield 91, 65, []), (65, .iload_n 1, 66, []), (66, .iaload, 67, []), (67, .goto 7, 70, [74]), (70, .aload_n 0, 71, []), (71, .getfield 236, 74, []), (74, .istore_n 3, 75, []), (75, .iconst 0, 76, []), (76, .istore 4, 78, []), (78, .iload 4, 80, []), (80, .iload_n 3, 81, []), (81, .if_icmp .ge 34, 84, [115]), (84, .aload_n 0, 85, []), (85, .getfield 97, 88, []), (88, .bipush 20, 90, []), (90, .iload_n 1, 91, []), (91, .imul, 92, []), (92, .iload 4, 94, []), (94, .iadd, 95, []), (95, .aload_n 0, 96, []), (96, .getfield 57, 99, []), (99, .aload_n 0, 100, []), (100, .getfield 66, 103, []), (103, .iload 4, 105, []), (105, .iaload, 106, []), (106, .iaload, 107, []), (107, .i2l, 108, []), (108, .lastore, 109, []), (109, .iinc 4 1, 112, []), (112, .goto (-34), 115, [78]), (115, .iload_n 3, 116, []), (116, .ireturn, 117, [])]
set_option maxRecDepth 200000 in
theorem tc_X10_into : T_X10_into.all (chk cX10_into) = true := by decide +kernel
def f_X10_into_L78 (N : Nat) (KO115 : Int32 → Wd → Option (Int32 × Wd)) : Nat → Int32 → Int32 → Int32 → Wd → Option (Int32 × Wd)
  | 0, _, _, _, _ => none
  | n + 1, x1, x3, x4, σ => if x3 ≤ x4 then (KO115 x3 σ) else ((xld σ 60 13 x4).bind fun v6 => (xld σ 57 2048 v6).bind fun v7 => (xstL σ 70 80 ((20 * x1) + x4) (Int32.toInt64 v7)).bind fun σ8 => f_X10_into_L78 N KO115 n x1 x3 (x4 + 1) σ8)
def f_X10_into_J115 (N : Nat) (x3 : Int32) (σ : Wd) : Option (Int32 × Wd) :=
  some (x3, σ)
def f_X10_into (N : Nat) (a1 : Int32) (a2 : Int32) (σ : Wd) : Option (Int32 × Wd) :=
  (f_X10_isShelf N a1 σ).bind fun p1 => if p1.1 = 0 then (some ((-1), p1.2)) else ((f_X10_isPlan N a2 p1.2).bind fun p2 => if p2.1 = 0 then (some ((-1), p2.2)) else ((xld p2.2 67 4 a1).bind fun v3 => if v3 = 0 then ((f_X10_laysPlan N a2 p2.2).bind fun σ4 => (xld σ4 68 4 a1).bind fun v5 => if (σ4.1 41 28) ≤ v5 then (f_X10_into_L78 N (f_X10_into_J115 N) N a1 (σ4.1 41 28) 0 σ4) else ((xld σ4 68 4 a1).bind fun v9 => f_X10_into_L78 N (f_X10_into_J115 N) N a1 v9 0 σ4)) else ((xld p2.2 67 4 a1).bind fun v10 => if 0 ≤ v10 then (some ((-12), p2.2)) else (some ((-11), p2.2)))))
def a_X10_into (N : Nat) : List Value → Wd → Option (Int32 × Wd) := fun as σ => kSE 41 as (fun r0 => kSI r0 (fun b1 r1 => kSI r1 (fun b2 r2 => kS0 r2 (f_X10_into N b1 b2 σ)))) (none)
def ct_X10_into (N : Nat) : List (Nat × Cal) := [(345, 1, 0, .inl (a_X10_isShelf N)), (163, 2, 10, .inl (a_X10_isPlan N)), (260, 2, 10, .inr (.inr (a_X10_laysPlan N)))]
set_option maxRecDepth 200000 in
theorem md_X10_into (N : Nat) : MDOK T_X10_into ft_X10 lt_X10 (ct_X10_into N) cX10_into RX10 29 := ⟨tc_X10_into, fc_X10, lc_X10, List.forall_mem_cons.mpr ⟨Or.inl ⟨yX10_isShelf, cX10_isShelf, 1, (some .boolean), 2, k_X10_345, Nat.le_of_ble_eq_true rfl, C_X10_isShelf N⟩, List.forall_mem_cons.mpr ⟨Or.inl ⟨yX10_isPlan, cX10_isPlan, 2, (some .boolean), 2, k_X10_163, Nat.le_of_ble_eq_true rfl, C_X10_isPlan N⟩, List.forall_mem_cons.mpr ⟨Or.inl ⟨yX10_laysPlan, cX10_laysPlan, 2, none, 28, k_X10_260, Nat.le_of_ble_eq_true rfl, C_X10_laysPlan N⟩, (fun _ z => absurd z List.not_mem_nil)⟩⟩⟩⟩
set_option maxRecDepth 200000 in
theorem g_X10_into_L78 (N : Nat) (KO115 : Int32 → Wd → Option (Int32 × Wd)) (hKO115 : ∀ (x3 : Int32) (σ : Wd), GO cX10_into RX10 5 29 sc0 rI nJ0 nV0 (KO115 x3 σ) 115 (mkp 0 5 [(3, .int x3)]) [] σ) : ∀ (n : Nat), ∀ (x1 : Int32) (x3 : Int32) (x4 : Int32) (σ : Wd), GO cX10_into RX10 5 29 sc0 rI nJ0 nV0 (f_X10_into_L78 N KO115 n x1 x3 x4 σ) 78 (mkp 0 5 [(0, .ref 41), (1, .int x1), (3, .int x3), (4, .int x4)]) [] σ
  | 0, x1, x3, x4, σ => GO.none
  | n + 1, x1, x3, x4, σ => by
    exact (by refine GO.to (md_X10_into N) (kl := [(115, fun vs st σ => kS0 st (kI 3 vs (fun x3 => KO115 x3 σ))), (78, fun vs st σ => kS0 st (kA 0 41 vs (kI 1 vs (fun x1 => kI 3 vs (fun x3 => kI 4 vs (fun x4 => f_X10_into_L78 N KO115 n x1 x3 x4 σ))))))]) (List.forall_mem_cons.mpr ⟨fun vs st σ => go_kS0 (go_kI (fun x3 h3 => GO.pat [(3, .int x3)] ⟨h3, trivial⟩ (hKO115 x3 σ))), List.forall_mem_cons.mpr ⟨fun vs st σ => go_kS0 (go_kA (fun h0 => go_kI (fun x1 h1 => go_kI (fun x3 h3 => go_kI (fun x4 h4 => GO.pat [(0, .ref 41), (1, .int x1), (3, .int x3), (4, .int x4)] ⟨h0, h1, h3, h4, trivial⟩ (g_X10_into_L78 N KO115 hKO115 n x1 x3 x4 σ)))))), (fun _ z => absurd z List.not_mem_nil)⟩⟩) 71 ?_ ?_ <;> rfl)
set_option maxRecDepth 200000 in
theorem g_X10_into_J115 (N : Nat) (x3 : Int32) (σ : Wd) : GO cX10_into RX10 5 29 sc0 rI nJ0 nV0 (f_X10_into_J115 N x3 σ) 115 (mkp 0 5 [(3, .int x3)]) [] σ := by
  exact (by refine GO.to (md_X10_into N) (kl := []) ((fun _ z => absurd z List.not_mem_nil)) 71 ?_ ?_ <;> rfl)
set_option maxRecDepth 200000 in
theorem C_X10_into (N : Nat) : CTI 29 yX10_into cX10_into 5 (some .int) (a_X10_into N) := by
  refine CTI.of (own := RX10) (by decide) rfl (fun as σ r h => ?_)
  unfold a_X10_into at h
  rcases kSE_s h with ⟨r0, rfl, h0⟩ | hn
  ·
    obtain ⟨b1, r1, rfl, h1⟩ := kSI_s h0
    obtain ⟨b2, r2, rfl, h2⟩ := kSI_s h1
    obtain ⟨rfl, h9⟩ := kS0_s h2
    exact ⟨Nat.le_of_ble_eq_true rfl, by refine GO.to (md_X10_into N) (kl := [(78, fun vs st σ => kS0 st (kA 0 41 vs (kI 1 vs (fun x1 => kI 3 vs (fun x3 => kI 4 vs (fun x4 => f_X10_into_L78 N (f_X10_into_J115 N) N x1 x3 x4 σ))))))]) (List.forall_mem_cons.mpr ⟨fun vs st σ => go_kS0 (go_kA (fun h0 => go_kI (fun x1 h1 => go_kI (fun x3 h3 => go_kI (fun x4 h4 => GO.pat [(0, .ref 41), (1, .int x1), (3, .int x3), (4, .int x4)] ⟨h0, h1, h3, h4, trivial⟩ (g_X10_into_L78 N (f_X10_into_J115 N) (g_X10_into_J115 N) N x1 x3 x4 σ)))))), (fun _ z => absurd z List.not_mem_nil)⟩) 71 ?_ ?_ <;> rfl⟩
  cases hn
def T_X10_slowest : List (Nat × Ent) := [(0, .aload_n 0, 1, []), (1, .iload_n 1, 2, []), (2, .invokevirtual 163, 5, []), (5, .ifCond .eq 15, 8, [20]), (8, .iload_n 2, 9, []), (9, .i2l, 10, []), (10, .lconst 0, 11, []), (11, .ldc2_w 182, 14, []), (14, .invokestatic 104, 17, []), (17, .ifCond .ne 5, 20, [22]), (20, .iconst (-1), 21, []), (21, .ireturn, 22, []), (22, .aload_n 0, 23, []), (23, .iload_n 1, 24, []), (24, .invokevirtual 167, 27, []), (27, .iconst 4, 28, []), (28, .if_icmp .le 6, 31, [34]), (31, .bipush (-7), 33, []), (33, .ireturn, 34, []), (34, .aload_n 0, 35, []), (35, .iload_n 1, 36, []), (36, .iconst 0, 37, []), (37, .invokevirtual 296, 40, []), (40, .istore_n 3, 41, []), (41, .iload_n 2, 42, []), (42, .ifCond .ne 10, 45, [52]), (45, .aload_n 0, 46, []), (46, .getfield 284, 49, []), (49, .goto 31, 52, [80]), (52, .iload_n 2, 53, []), (53, .iconst 1, 54, []), (54, .if_icmp .ne 10, 57, [64]), (57, .aload_n 0, 58, []), (58, .getfield 287, 61, []), (61, .goto 19, 64, [80]), (64, .iload_n 2, 65, []), (65, .iconst 2, 66, []), (66, .if_icmp .ne 10, 69, [76]), (69, .aload_n 0, 70, []), (70, .getfield 290, 73, []), (73, .goto 7, 76, [80]), (76, .aload_n 0, 77, []), (77, .getfield 293, 80, []), (80, .ireturn, 81, [])]
set_option maxRecDepth 200000 in
theorem tc_X10_slowest : T_X10_slowest.all (chk cX10_slowest) = true := by decide +kernel
def f_X10_slowest (N : Nat) (a1 : Int32) (a2 : Int32) (σ : Wd) : Option (Int32 × Wd) :=
  (f_X10_isPlan N a1 σ).bind fun p1 => if p1.1 = 0 then (some ((-1), p1.2)) else ((f_X10_in N (Int32.toInt64 a2) 0 3 p1.2).bind fun p2 => if p2.1 = 0 then (some ((-1), p2.2)) else ((f_X10_width N a1 p2.2).bind fun p3 => if p3.1 ≤ 4 then ((f_X10_goesThrough N a1 0 p3.2).bind fun p4 => if a2 = 0 then (some (p4.2.1 41 32, p4.2)) else (if a2 = 1 then (some (p4.2.1 41 29, p4.2)) else (if a2 = 2 then (some (p4.2.1 41 30, p4.2)) else (some (p4.2.1 41 31, p4.2))))) else (some ((-7), p3.2))))
def a_X10_slowest (N : Nat) : List Value → Wd → Option (Int32 × Wd) := fun as σ => kSE 41 as (fun r0 => kSI r0 (fun b1 r1 => kSI r1 (fun b2 r2 => kS0 r2 (f_X10_slowest N b1 b2 σ)))) (none)
set_option maxRecDepth 200000 in
theorem k_X10_296 : calchk RX10 296 3 10 yX10_goesThrough cX10_goesThrough 10 (some .int) = true := by decide +kernel
def ct_X10_slowest (N : Nat) : List (Nat × Cal) := [(163, 2, 10, .inl (a_X10_isPlan N)), (104, 3, 0, .inl (a_X10_in N)), (167, 2, 10, .inl (a_X10_width N)), (296, 3, 10, .inl (a_X10_goesThrough N))]
set_option maxRecDepth 200000 in
theorem md_X10_slowest (N : Nat) : MDOK T_X10_slowest ft_X10 lt_X10 (ct_X10_slowest N) cX10_slowest RX10 30 := ⟨tc_X10_slowest, fc_X10, lc_X10, List.forall_mem_cons.mpr ⟨Or.inl ⟨yX10_isPlan, cX10_isPlan, 2, (some .boolean), 2, k_X10_163, Nat.le_of_ble_eq_true rfl, C_X10_isPlan N⟩, List.forall_mem_cons.mpr ⟨Or.inl ⟨yX10_in, cX10_in, 6, (some .boolean), 1, k_X10_104, Nat.le_of_ble_eq_true rfl, C_X10_in N⟩, List.forall_mem_cons.mpr ⟨Or.inl ⟨yX10_width, cX10_width, 2, (some .int), 2, k_X10_167, Nat.le_of_ble_eq_true rfl, C_X10_width N⟩, List.forall_mem_cons.mpr ⟨Or.inl ⟨yX10_goesThrough, cX10_goesThrough, 10, (some .int), 29, k_X10_296, Nat.le_of_ble_eq_true rfl, C_X10_goesThrough N⟩, (fun _ z => absurd z List.not_mem_nil)⟩⟩⟩⟩⟩
set_option maxRecDepth 200000 in
theorem C_X10_slowest (N : Nat) : CTI 30 yX10_slowest cX10_slowest 4 (some .int) (a_X10_slowest N) := by
  refine CTI.of (own := RX10) (by decide) rfl (fun as σ r h => ?_)
  unfold a_X10_slowest at h
  rcases kSE_s h with ⟨r0, rfl, h0⟩ | hn
  ·
    obtain ⟨b1, r1, rfl, h1⟩ := kSI_s h0
    obtain ⟨b2, r2, rfl, h2⟩ := kSI_s h1
    obtain ⟨rfl, h9⟩ := kS0_s h2
    exact ⟨Nat.le_of_ble_eq_true rfl, by refine GO.to (md_X10_slowest N) (kl := []) ((fun _ z => absurd z List.not_mem_nil)) 49 ?_ ?_ <;> rfl⟩
  cases hn
def T_X10_intime : List (Nat × Ent) := [(0, .aload_n 0, 1, []), (1, .iload_n 1, 2, []), (2, .invokevirtual 163, 5, []), (5, .ifCond .eq 15, 8, [20]), (8, .iload_n 2, 9, []), (9, .i2l, 10, []), (10, .lconst 0, 11, []), (11, .ldc2_w 299, 14, []), (14, .invokestatic 104, 17, []), (17, .ifCond .ne 5, 20, [22]), (20, .iconst (-1), 21, []), (21, .ireturn, 22, []), (22, .aload_n 0, 23, []), (23, .iload_n 1, 24, []), (24, .invokevirtual 167, 27, []), (27, .iconst 4, 28, []), (28, .if_icmp .le 8, 31, [36]), (31, .bipush (-7), 33, []), (33, .goto 9, 36, [42]), (36, .aload_n 0, 37, []), (37, .iload_n 1, 38, []), (38, .iload_n 2, 39, []), (39, .invokevirtual 296, 42, []), (42, .ireturn, 43, [])]
set_option maxRecDepth 200000 in
theorem tc_X10_intime : T_X10_intime.all (chk cX10_intime) = true := by decide +kernel
def f_X10_intime (N : Nat) (a1 : Int32) (a2 : Int32) (σ : Wd) : Option (Int32 × Wd) :=
  (f_X10_isPlan N a1 σ).bind fun p1 => if p1.1 = 0 then (some ((-1), p1.2)) else ((f_X10_in N (Int32.toInt64 a2) 0 999 p1.2).bind fun p2 => if p2.1 = 0 then (some ((-1), p2.2)) else ((f_X10_width N a1 p2.2).bind fun p3 => if p3.1 ≤ 4 then ((f_X10_goesThrough N a1 a2 p3.2).bind fun p4 => some (p4.1, p4.2)) else (some ((-7), p3.2))))
def a_X10_intime (N : Nat) : List Value → Wd → Option (Int32 × Wd) := fun as σ => kSE 41 as (fun r0 => kSI r0 (fun b1 r1 => kSI r1 (fun b2 r2 => kS0 r2 (f_X10_intime N b1 b2 σ)))) (none)
def ct_X10_intime (N : Nat) : List (Nat × Cal) := [(163, 2, 10, .inl (a_X10_isPlan N)), (104, 3, 0, .inl (a_X10_in N)), (167, 2, 10, .inl (a_X10_width N)), (296, 3, 10, .inl (a_X10_goesThrough N))]
set_option maxRecDepth 200000 in
theorem md_X10_intime (N : Nat) : MDOK T_X10_intime ft_X10 lt_X10 (ct_X10_intime N) cX10_intime RX10 30 := ⟨tc_X10_intime, fc_X10, lc_X10, List.forall_mem_cons.mpr ⟨Or.inl ⟨yX10_isPlan, cX10_isPlan, 2, (some .boolean), 2, k_X10_163, Nat.le_of_ble_eq_true rfl, C_X10_isPlan N⟩, List.forall_mem_cons.mpr ⟨Or.inl ⟨yX10_in, cX10_in, 6, (some .boolean), 1, k_X10_104, Nat.le_of_ble_eq_true rfl, C_X10_in N⟩, List.forall_mem_cons.mpr ⟨Or.inl ⟨yX10_width, cX10_width, 2, (some .int), 2, k_X10_167, Nat.le_of_ble_eq_true rfl, C_X10_width N⟩, List.forall_mem_cons.mpr ⟨Or.inl ⟨yX10_goesThrough, cX10_goesThrough, 10, (some .int), 29, k_X10_296, Nat.le_of_ble_eq_true rfl, C_X10_goesThrough N⟩, (fun _ z => absurd z List.not_mem_nil)⟩⟩⟩⟩⟩
set_option maxRecDepth 200000 in
theorem C_X10_intime (N : Nat) : CTI 30 yX10_intime cX10_intime 3 (some .int) (a_X10_intime N) := by
  refine CTI.of (own := RX10) (by decide) rfl (fun as σ r h => ?_)
  unfold a_X10_intime at h
  rcases kSE_s h with ⟨r0, rfl, h0⟩ | hn
  ·
    obtain ⟨b1, r1, rfl, h1⟩ := kSI_s h0
    obtain ⟨b2, r2, rfl, h2⟩ := kSI_s h1
    obtain ⟨rfl, h9⟩ := kS0_s h2
    exact ⟨Nat.le_of_ble_eq_true rfl, by refine GO.to (md_X10_intime N) (kl := []) ((fun _ z => absurd z List.not_mem_nil)) 29 ?_ ?_ <;> rfl⟩
  cases hn
def T_X10_chooses : List (Nat × Ent) := [(0, .aload_n 0, 1, []), (1, .iconst 0, 2, []), (2, .putfield 304, 5, []), (5, .aload_n 0, 6, []), (6, .iconst 0, 7, []), (7, .putfield 301, 10, []), (10, .aload_n 0, 11, []), (11, .iconst 0, 12, []), (12, .iload_n 1, 13, []), (13, .iload_n 2, 14, []), (14, .iload_n 3, 15, []), (15, .invokevirtual 317, 18, []), (18, .return_, 19, [])]
set_option maxRecDepth 200000 in
theorem tc_X10_chooses : T_X10_chooses.all (chk cX10_chooses) = true := by decide +kernel
def f_X10_chooses (N : Nat) (a1 : Int32) (a2 : Int32) (a3 : Int32) (σ : Wd) : Option Wd :=
  let σ1 : Wd := sF σ 41 35 0
  let σ2 : Wd := sF σ1 41 38 0
  (f_X10_goesOn N 9 0 a1 a2 a3 σ2).bind fun σ3 => some σ3
def a_X10_chooses (N : Nat) : List Value → Wd → Option Wd := fun as σ => kSE 41 as (fun r0 => kSI r0 (fun b1 r1 => kSI r1 (fun b2 r2 => kSI r2 (fun b3 r3 => kS0 r3 (f_X10_chooses N b1 b2 b3 σ))))) (none)
def ct_X10_chooses (N : Nat) : List (Nat × Cal) := [(317, 5, 10, .inr (.inr (a_X10_goesOn N 9)))]
set_option maxRecDepth 200000 in
theorem md_X10_chooses (N : Nat) : MDOK T_X10_chooses ft_X10 lt_X10 (ct_X10_chooses N) cX10_chooses RX10 39 := ⟨tc_X10_chooses, fc_X10, lc_X10, List.forall_mem_cons.mpr ⟨Or.inl ⟨yX10_goesOn, cX10_goesOn, 7, none, 38, k_X10_317, Nat.le_of_ble_eq_true rfl, C_X10_goesOn N 9⟩, (fun _ z => absurd z List.not_mem_nil)⟩⟩
set_option maxRecDepth 200000 in
theorem C_X10_chooses (N : Nat) : CTV 39 yX10_chooses cX10_chooses 4 none (a_X10_chooses N) := by
  refine CTV.of (own := RX10) (by decide) rfl (fun as σ r h => ?_)
  unfold a_X10_chooses at h
  rcases kSE_s h with ⟨r0, rfl, h0⟩ | hn
  ·
    obtain ⟨b1, r1, rfl, h1⟩ := kSI_s h0
    obtain ⟨b2, r2, rfl, h2⟩ := kSI_s h1
    obtain ⟨b3, r3, rfl, h3⟩ := kSI_s h2
    obtain ⟨rfl, h9⟩ := kS0_s h3
    exact ⟨Nat.le_of_ble_eq_true rfl, by refine GO.to (md_X10_chooses N) (kl := []) ((fun _ z => absurd z List.not_mem_nil)) 18 ?_ ?_ <;> rfl⟩
  cases hn
def T_X10_choose : List (Nat × Ent) := [(0, .iload_n 1, 1, []), (1, .iload_n 2, 2, []), (2, .iload_n 3, 3, []), (3, .invokestatic 325, 6, []), (6, .ifCond .eq 23, 9, [29]), (9, .iload 4, 11, []), (11, .i2l, 12, []), (12, .lconst 0, 13, []), (13, .ldc2_w 323, 16, []), (16, .invokestatic 104, 19, []), (19, .ifCond .ne 12, 22, [31]), (22, .iload 4, 24, []), (24, .bipush 10, 26, []), (26, .if_icmp .ge 5, 29, [31]), (29, .iconst (-1), 30, []), (30, .ireturn, 31, []), (31, .aload_n 0, 32, []), (32, .iload_n 1, 33, []), (33, .iload_n 2, 34, []), (34, .iload_n 3, 35, []), (35, .invokevirtual 329, 38, []), (38, .iload 4, 40, []), (40, .iconst 2, 41, []), (41, .if_icmp .ne 8, 44, [49]), (44, .aload_n 0, 45, []), (45, .getfield 301, 48, []), (48, .ireturn, 49, []), (49, .aload_n 0, 50, []), (50, .getfield 304, 53, []), (53, .ifCond .eq 15, 56, [68]), (56, .iload 4, 58, []), (58, .bipush 10, 60, []), (60, .isub, 61, []), (61, .aload_n 0, 62, []), (62, .getfield 304, 65, []), (65, .if_icmp .lt 6, 68, [71]), (68, .bipush (-2), 70, []), (70, .ireturn, 71, []), (71, .iload 4, 73, []), (73, .ifCond .ne 10, 76, [83]), (76, .aload_n 0, 77, []), (77, .getfield 307, 80, []), (80, .goto 26, 83, [106]), (83, .iload 4, 85, []), (85, .iconst 1, 86, []), (86, .if_icmp .ne 10, 89, [96]), (89, .aload_n 0, 90, []), (90, .getfield 310, 93, []), (93, .goto 13, 96, [106]), (96, .aload_n 0, 97, []), (97, .getfield 78, 100, []), (100, .iload 4, 102, []), (102, .bipush 10, 104, []), (104, .isub, 105, []), (105, .iaload, 106, []), (106, .ireturn, 107, [])]
set_option maxRecDepth 200000 in
theorem tc_X10_choose : T_X10_choose.all (chk cX10_choose) = true := by decide +kernel
def f_X10_choose_J31 (N : Nat) (x1 : Int32) (x2 : Int32) (x3 : Int32) (x4 : Int32) (σ : Wd) : Option (Int32 × Wd) :=
  (f_X10_chooses N x1 x2 x3 σ).bind fun σ3 => if x4 = 2 then (some (σ3.1 41 38, σ3)) else (if (σ3.1 41 35) = 0 then (some ((-2), σ3)) else (if (x4 - 10) < (σ3.1 41 35) then (if x4 = 0 then (some (σ3.1 41 36, σ3)) else (if x4 = 1 then (some (σ3.1 41 37, σ3)) else ((xld σ3 64 8 (x4 - 10)).bind fun v4 => some (v4, σ3)))) else (some ((-2), σ3))))
def f_X10_choose (N : Nat) (a1 : Int32) (a2 : Int32) (a3 : Int32) (a4 : Int32) (σ : Wd) : Option (Int32 × Wd) :=
  (f_X10_isWanted N a1 a2 a3 σ).bind fun p1 => if p1.1 = 0 then (some ((-1), p1.2)) else ((f_X10_in N (Int32.toInt64 a4) 0 2 p1.2).bind fun p2 => if p2.1 = 0 then (if 10 ≤ a4 then (f_X10_choose_J31 N a1 a2 a3 a4 p2.2) else (some ((-1), p2.2))) else (f_X10_choose_J31 N a1 a2 a3 a4 p2.2))
def a_X10_choose (N : Nat) : List Value → Wd → Option (Int32 × Wd) := fun as σ => kSE 41 as (fun r0 => kSI r0 (fun b1 r1 => kSI r1 (fun b2 r2 => kSI r2 (fun b3 r3 => kSI r3 (fun b4 r4 => kS0 r4 (f_X10_choose N b1 b2 b3 b4 σ)))))) (none)
set_option maxRecDepth 200000 in
theorem k_X10_325 : calchk RX10 325 3 0 yX10_isWanted cX10_isWanted 4 (some .boolean) = true := by decide +kernel
set_option maxRecDepth 200000 in
theorem k_X10_329 : calchk RX10 329 4 10 yX10_chooses cX10_chooses 4 none = true := by decide +kernel
def ct_X10_choose (N : Nat) : List (Nat × Cal) := [(325, 3, 0, .inl (a_X10_isWanted N)), (104, 3, 0, .inl (a_X10_in N)), (329, 4, 10, .inr (.inr (a_X10_chooses N)))]
set_option maxRecDepth 200000 in
theorem md_X10_choose (N : Nat) : MDOK T_X10_choose ft_X10 lt_X10 (ct_X10_choose N) cX10_choose RX10 40 := ⟨tc_X10_choose, fc_X10, lc_X10, List.forall_mem_cons.mpr ⟨Or.inl ⟨yX10_isWanted, cX10_isWanted, 4, (some .boolean), 2, k_X10_325, Nat.le_of_ble_eq_true rfl, C_X10_isWanted N⟩, List.forall_mem_cons.mpr ⟨Or.inl ⟨yX10_in, cX10_in, 6, (some .boolean), 1, k_X10_104, Nat.le_of_ble_eq_true rfl, C_X10_in N⟩, List.forall_mem_cons.mpr ⟨Or.inl ⟨yX10_chooses, cX10_chooses, 4, none, 39, k_X10_329, Nat.le_of_ble_eq_true rfl, C_X10_chooses N⟩, (fun _ z => absurd z List.not_mem_nil)⟩⟩⟩⟩
set_option maxRecDepth 200000 in
theorem g_X10_choose_J31 (N : Nat) (x1 : Int32) (x2 : Int32) (x3 : Int32) (x4 : Int32) (σ : Wd) : GO cX10_choose RX10 5 40 sc0 rI nJ0 nV0 (f_X10_choose_J31 N x1 x2 x3 x4 σ) 31 (mkp 0 5 [(0, .ref 41), (1, .int x1), (2, .int x2), (3, .int x3), (4, .int x4)]) [] σ := by
  exact (by refine GO.to (md_X10_choose N) (kl := []) ((fun _ z => absurd z List.not_mem_nil)) 61 ?_ ?_ <;> rfl)
set_option maxRecDepth 200000 in
theorem C_X10_choose (N : Nat) : CTI 40 yX10_choose cX10_choose 5 (some .int) (a_X10_choose N) := by
  refine CTI.of (own := RX10) (by decide) rfl (fun as σ r h => ?_)
  unfold a_X10_choose at h
  rcases kSE_s h with ⟨r0, rfl, h0⟩ | hn
  ·
    obtain ⟨b1, r1, rfl, h1⟩ := kSI_s h0
    obtain ⟨b2, r2, rfl, h2⟩ := kSI_s h1
    obtain ⟨b3, r3, rfl, h3⟩ := kSI_s h2
    obtain ⟨b4, r4, rfl, h4⟩ := kSI_s h3
    obtain ⟨rfl, h9⟩ := kS0_s h4
    exact ⟨Nat.le_of_ble_eq_true rfl, by refine GO.to (md_X10_choose N) (kl := [(31, fun vs st σ => kS0 st (kA 0 41 vs (kI 1 vs (fun x1 => kI 2 vs (fun x2 => kI 3 vs (fun x3 => kI 4 vs (fun x4 => f_X10_choose_J31 N x1 x2 x3 x4 σ)))))))]) (List.forall_mem_cons.mpr ⟨fun vs st σ => go_kS0 (go_kA (fun h0 => go_kI (fun x1 h1 => go_kI (fun x2 h2 => go_kI (fun x3 h3 => go_kI (fun x4 h4 => GO.pat [(0, .ref 41), (1, .int x1), (2, .int x2), (3, .int x3), (4, .int x4)] ⟨h0, h1, h2, h3, h4, trivial⟩ (g_X10_choose_J31 N x1 x2 x3 x4 σ))))))), (fun _ z => absurd z List.not_mem_nil)⟩) 61 ?_ ?_ <;> rfl⟩
  cases hn
def T_X10_chosen : List (Nat × Ent) := [(0, .iload_n 1, 1, []), (1, .iload_n 2, 2, []), (2, .iload_n 3, 3, []), (3, .invokestatic 325, 6, []), (6, .ifCond .ne 5, 9, [11]), (9, .iconst (-1), 10, []), (10, .ireturn, 11, []), (11, .aload_n 0, 12, []), (12, .invokevirtual 160, 15, []), (15, .ifCond .ne 6, 18, [21]), (18, .bipush (-100), 20, []), (20, .ireturn, 21, []), (21, .aload_n 0, 22, []), (22, .iload_n 1, 23, []), (23, .iload_n 2, 24, []), (24, .iload_n 3, 25, []), (25, .invokevirtual 329, 28, []), (28, .aload_n 0, 29, []), (29, .getfield 304, 32, []), (32, .ifCond .ne 8, 35, [40]), (35, .bipush (-2), 37, []), (37, .goto 15, 40, [52]), (40, .aload_n 0, 41, []), (41, .aload_n 0, 42, []), (42, .getfield 78, 45, []), (45, .aload_n 0, 46, []), (46, .getfield 304, 49, []), (49, .invokevirtual 156, 52, []), (52, .ireturn, 53, [])]
set_option maxRecDepth 200000 in
theorem tc_X10_chosen : T_X10_chosen.all (chk cX10_chosen) = true := by decide +kernel
def f_X10_chosen (N : Nat) (a1 : Int32) (a2 : Int32) (a3 : Int32) (σ : Wd) : Option (Int32 × Wd) :=
  (f_X10_isWanted N a1 a2 a3 σ).bind fun p1 => if p1.1 = 0 then (some ((-1), p1.2)) else ((f_X10_isNamed N p1.2).bind fun p2 => if p2.1 = 0 then (some ((-100), p2.2)) else ((f_X10_chooses N a1 a2 a3 p2.2).bind fun σ3 => if (σ3.1 41 35) = 0 then (some ((-2), σ3)) else ((f_X10_becomes N 64 8 (σ3.1 41 35) σ3).bind fun p4 => some (p4.1, p4.2))))
def a_X10_chosen (N : Nat) : List Value → Wd → Option (Int32 × Wd) := fun as σ => kSE 41 as (fun r0 => kSI r0 (fun b1 r1 => kSI r1 (fun b2 r2 => kSI r2 (fun b3 r3 => kS0 r3 (f_X10_chosen N b1 b2 b3 σ))))) (none)
def ct_X10_chosen (N : Nat) : List (Nat × Cal) := [(325, 3, 0, .inl (a_X10_isWanted N)), (160, 1, 10, .inl (a_X10_isNamed N)), (329, 4, 10, .inr (.inr (a_X10_chooses N))), (156, 3, 10, .inl (a_X10_becomes N))]
set_option maxRecDepth 200000 in
theorem md_X10_chosen (N : Nat) : MDOK T_X10_chosen ft_X10 lt_X10 (ct_X10_chosen N) cX10_chosen RX10 40 := ⟨tc_X10_chosen, fc_X10, lc_X10, List.forall_mem_cons.mpr ⟨Or.inl ⟨yX10_isWanted, cX10_isWanted, 4, (some .boolean), 2, k_X10_325, Nat.le_of_ble_eq_true rfl, C_X10_isWanted N⟩, List.forall_mem_cons.mpr ⟨Or.inl ⟨yX10_isNamed, cX10_isNamed, 2, (some .boolean), 3, k_X10_160, Nat.le_of_ble_eq_true rfl, C_X10_isNamed N⟩, List.forall_mem_cons.mpr ⟨Or.inl ⟨yX10_chooses, cX10_chooses, 4, none, 39, k_X10_329, Nat.le_of_ble_eq_true rfl, C_X10_chooses N⟩, List.forall_mem_cons.mpr ⟨Or.inl ⟨yX10_becomes, cX10_becomes, 5, (some .int), 3, k_X10_156, Nat.le_of_ble_eq_true rfl, C_X10_becomes N⟩, (fun _ z => absurd z List.not_mem_nil)⟩⟩⟩⟩⟩
set_option maxRecDepth 200000 in
theorem C_X10_chosen (N : Nat) : CTI 40 yX10_chosen cX10_chosen 4 (some .int) (a_X10_chosen N) := by
  refine CTI.of (own := RX10) (by decide) rfl (fun as σ r h => ?_)
  unfold a_X10_chosen at h
  rcases kSE_s h with ⟨r0, rfl, h0⟩ | hn
  ·
    obtain ⟨b1, r1, rfl, h1⟩ := kSI_s h0
    obtain ⟨b2, r2, rfl, h2⟩ := kSI_s h1
    obtain ⟨b3, r3, rfl, h3⟩ := kSI_s h2
    obtain ⟨rfl, h9⟩ := kS0_s h3
    exact ⟨Nat.le_of_ble_eq_true rfl, by refine GO.to (md_X10_chosen N) (kl := []) ((fun _ z => absurd z List.not_mem_nil)) 34 ?_ ?_ <;> rfl⟩
  cases hn
