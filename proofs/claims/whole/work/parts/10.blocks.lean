def ft_X0 : List (Nat × FTE) := []
def lt_X0 : List (Nat × Int64) := []
theorem fc_X0 : ft_X0.all (fun e => fldchk RX0 e && shchk e) = true := by decide +kernel
theorem lc_X0 : lt_X0.all (ltchk RX0) = true := by decide +kernel
def T_X0_codeAt : List (Nat × Ent) := [(0, .lload_n 0, 1, []), (1, .bipush 6, 3, []), (3, .iload_n 2, 4, []), (4, .imul, 5, []), (5, .lushr, 6, []), (6, .l2i, 7, []), (7, .bipush 63, 9, []), (9, .iand, 10, []), (10, .ireturn, 11, [])]
set_option maxRecDepth 20000 in
theorem tc_X0_codeAt : T_X0_codeAt.all (chk cX0_codeAt) = true := by decide +kernel
def f_X0_codeAt (N : Nat) (a0 : Int64) (a2 : Int32) (σ : Wd) : Option (Int32 × Wd) :=
  some ((Int64.toInt32 ((Int64.toUInt64 a0 >>> (Int64.toUInt64 (Int32.toInt64 (6 * a2)) &&& Int64.toUInt64 63)).toInt64)) &&& 63, σ)
def a_X0_codeAt (N : Nat) : List Value → Wd → Option (Int32 × Wd) := fun as σ => kSJ as (fun b0 r0 => kSI r0 (fun b1 r1 => kS0 r1 (f_X0_codeAt N b0 b1 σ)))
def ct_X0_codeAt (N : Nat) : List (Nat × Cal) := []
set_option maxRecDepth 20000 in
theorem md_X0_codeAt (N : Nat) : MDOK T_X0_codeAt ft_X0 lt_X0 (ct_X0_codeAt N) cX0_codeAt RX0 1 := ⟨tc_X0_codeAt, fc_X0, lc_X0, (fun _ z => absurd z List.not_mem_nil)⟩
set_option maxRecDepth 20000 in
theorem C_X0_codeAt (N : Nat) : CTI 1 yX0_codeAt cX0_codeAt 3 (some .int) (a_X0_codeAt N) := by
  refine CTI.of (own := RX0) (by decide) rfl (fun as σ r h => ?_)
  unfold a_X0_codeAt at h
  obtain ⟨b0, r0, rfl, h0⟩ := kSJ_s h
  obtain ⟨b1, r1, rfl, h1⟩ := kSI_s h0
  obtain ⟨rfl, h9⟩ := kS0_s h1
  exact ⟨Nat.le_of_ble_eq_true rfl, by refine GO.to (md_X0_codeAt N) (kl := []) ((fun _ z => absurd z List.not_mem_nil)) 14 ?_ ?_ <;> rfl⟩
def T_X0_with : List (Nat × Ent) := [(0, .lload_n 0, 1, []), (1, .iload_n 3, 2, []), (2, .iconst 3, 3, []), (3, .ishl, 4, []), (4, .iload 4, 6, []), (6, .ior, 7, []), (7, .i2l, 8, []), (8, .bipush 6, 10, []), (10, .iload_n 2, 11, []), (11, .imul, 12, []), (12, .lshl, 13, []), (13, .lor, 14, []), (14, .lreturn, 15, [])]
set_option maxRecDepth 20000 in
theorem tc_X0_with : T_X0_with.all (chk cX0_with) = true := by decide +kernel
def f_X0_with (N : Nat) (a0 : Int64) (a2 : Int32) (a3 : Int32) (a4 : Int32) (σ : Wd) : Option (Int64 × Wd) :=
  some (a0 ||| ((Int32.toInt64 ((a3 <<< (3 &&& 31)) ||| a4)) <<< (Int32.toInt64 (6 * a2) &&& 63)), σ)
def a_X0_with (N : Nat) : List Value → Wd → Option (Int64 × Wd) := fun as σ => kSJ as (fun b0 r0 => kSI r0 (fun b1 r1 => kSI r1 (fun b2 r2 => kSI r2 (fun b3 r3 => kS0 r3 (f_X0_with N b0 b1 b2 b3 σ)))))
def ct_X0_with (N : Nat) : List (Nat × Cal) := []
set_option maxRecDepth 20000 in
theorem md_X0_with (N : Nat) : MDOK T_X0_with ft_X0 lt_X0 (ct_X0_with N) cX0_with RX0 1 := ⟨tc_X0_with, fc_X0, lc_X0, (fun _ z => absurd z List.not_mem_nil)⟩
set_option maxRecDepth 20000 in
theorem C_X0_with (N : Nat) : CTL 1 yX0_with cX0_with 5 (some .long) (a_X0_with N) := by
  refine CTL.of (own := RX0) (by decide) rfl (fun as σ r h => ?_)
  unfold a_X0_with at h
  obtain ⟨b0, r0, rfl, h0⟩ := kSJ_s h
  obtain ⟨b1, r1, rfl, h1⟩ := kSI_s h0
  obtain ⟨b2, r2, rfl, h2⟩ := kSI_s h1
  obtain ⟨b3, r3, rfl, h3⟩ := kSI_s h2
  obtain ⟨rfl, h9⟩ := kS0_s h3
  exact ⟨Nat.le_of_ble_eq_true rfl, by refine GO.to (md_X0_with N) (kl := []) ((fun _ z => absurd z List.not_mem_nil)) 18 ?_ ?_ <;> rfl⟩
def T_X0_amount : List (Nat × Ent) := [(0, .iconst 0, 1, []), (1, .istore_n 2, 2, []), (2, .iload_n 2, 3, []), (3, .bipush 8, 5, []), (5, .if_icmp .ge 17, 8, [22]), (8, .lload_n 0, 9, []), (9, .iload_n 2, 10, []), (10, .invokestatic 9, 13, []), (13, .ifCond .eq 9, 16, [22]), (16, .iinc 2 1, 19, []), (19, .goto (-17), 22, [2]), (22, .iload_n 2, 23, []), (23, .ireturn, 24, [])]
set_option maxRecDepth 20000 in
theorem tc_X0_amount : T_X0_amount.all (chk cX0_amount) = true := by decide +kernel
def f_X0_amount_L2 (N : Nat) (KO22 : Int32 → Wd → Option (Int32 × Wd)) : Nat → Int64 → Int32 → Wd → Option (Int32 × Wd)
  | 0, _, _, _ => none
  | n + 1, x0, x2, σ => if 8 ≤ x2 then (KO22 x2 σ) else ((f_X0_codeAt N x0 x2 σ).bind fun p1 => if p1.1 = 0 then (KO22 x2 p1.2) else (f_X0_amount_L2 N KO22 n x0 (x2 + 1) p1.2))
def f_X0_amount_J22 (N : Nat) (x2 : Int32) (σ : Wd) : Option (Int32 × Wd) :=
  some (x2, σ)
def f_X0_amount (N : Nat) (a0 : Int64) (σ : Wd) : Option (Int32 × Wd) :=
  f_X0_amount_L2 N (f_X0_amount_J22 N) N a0 0 σ
def a_X0_amount (N : Nat) : List Value → Wd → Option (Int32 × Wd) := fun as σ => kSJ as (fun b0 r0 => kS0 r0 (f_X0_amount N b0 σ))
set_option maxRecDepth 20000 in
theorem k_X0_9 : calchk RX0 9 2 0 yX0_codeAt cX0_codeAt 3 (some .int) = true := by decide +kernel
def ct_X0_amount (N : Nat) : List (Nat × Cal) := [(9, 2, 0, .inl (a_X0_codeAt N))]
set_option maxRecDepth 20000 in
theorem md_X0_amount (N : Nat) : MDOK T_X0_amount ft_X0 lt_X0 (ct_X0_amount N) cX0_amount RX0 2 := ⟨tc_X0_amount, fc_X0, lc_X0, List.forall_mem_cons.mpr ⟨Or.inl ⟨yX0_codeAt, cX0_codeAt, 3, (some .int), 1, k_X0_9, Nat.le_of_ble_eq_true rfl, C_X0_codeAt N⟩, (fun _ z => absurd z List.not_mem_nil)⟩⟩
set_option maxRecDepth 20000 in
theorem g_X0_amount_L2 (N : Nat) (KO22 : Int32 → Wd → Option (Int32 × Wd)) (hKO22 : ∀ (x2 : Int32) (σ : Wd), GO cX0_amount RX0 3 2 sc0 rI nJ0 nV0 (KO22 x2 σ) 22 (mkp 0 3 [(2, .int x2)]) [] σ) : ∀ (n : Nat), ∀ (x0 : Int64) (x2 : Int32) (σ : Wd), GO cX0_amount RX0 3 2 sc0 rI nJ0 nV0 (f_X0_amount_L2 N KO22 n x0 x2 σ) 2 (mkp 0 3 [(0, .long x0), (2, .int x2)]) [] σ
  | 0, x0, x2, σ => GO.none
  | n + 1, x0, x2, σ => by
    exact (by refine GO.to (md_X0_amount N) (kl := [(22, fun vs st σ => kS0 st (kI 2 vs (fun x2 => KO22 x2 σ))), (2, fun vs st σ => kS0 st (kJ 0 vs (fun x0 => kI 2 vs (fun x2 => f_X0_amount_L2 N KO22 n x0 x2 σ))))]) (List.forall_mem_cons.mpr ⟨fun vs st σ => go_kS0 (go_kI (fun x2 h2 => GO.pat [(2, .int x2)] ⟨h2, trivial⟩ (hKO22 x2 σ))), List.forall_mem_cons.mpr ⟨fun vs st σ => go_kS0 (go_kJ (fun x0 h0 => go_kI (fun x2 h2 => GO.pat [(0, .long x0), (2, .int x2)] ⟨h0, h2, trivial⟩ (g_X0_amount_L2 N KO22 hKO22 n x0 x2 σ)))), (fun _ z => absurd z List.not_mem_nil)⟩⟩) 18 ?_ ?_ <;> rfl)
theorem g_X0_amount_J22 (N : Nat) (x2 : Int32) (σ : Wd) : GO cX0_amount RX0 3 2 sc0 rI nJ0 nV0 (f_X0_amount_J22 N x2 σ) 22 (mkp 0 3 [(2, .int x2)]) [] σ := by
  exact (by refine GO.to (md_X0_amount N) (kl := []) ((fun _ z => absurd z List.not_mem_nil)) 18 ?_ ?_ <;> rfl)
set_option maxRecDepth 20000 in
theorem C_X0_amount (N : Nat) : CTI 2 yX0_amount cX0_amount 3 (some .int) (a_X0_amount N) := by
  refine CTI.of (own := RX0) (by decide) rfl (fun as σ r h => ?_)
  unfold a_X0_amount at h
  obtain ⟨b0, r0, rfl, h0⟩ := kSJ_s h
  obtain ⟨rfl, h9⟩ := kS0_s h0
  exact ⟨Nat.le_of_ble_eq_true rfl, by refine GO.to (md_X0_amount N) (kl := [(2, fun vs st σ => kS0 st (kJ 0 vs (fun x0 => kI 2 vs (fun x2 => f_X0_amount_L2 N (f_X0_amount_J22 N) N x0 x2 σ))))]) (List.forall_mem_cons.mpr ⟨fun vs st σ => go_kS0 (go_kJ (fun x0 h0 => go_kI (fun x2 h2 => GO.pat [(0, .long x0), (2, .int x2)] ⟨h0, h2, trivial⟩ (g_X0_amount_L2 N (f_X0_amount_J22 N) (g_X0_amount_J22 N) N x0 x2 σ)))), (fun _ z => absurd z List.not_mem_nil)⟩) 18 ?_ ?_ <;> rfl⟩
def T_X0_kindAt : List (Nat × Ent) := [(0, .lload_n 0, 1, []), (1, .iload_n 2, 2, []), (2, .invokestatic 9, 5, []), (5, .iconst 3, 6, []), (6, .ishr, 7, []), (7, .ireturn, 8, [])]
set_option maxRecDepth 20000 in
theorem tc_X0_kindAt : T_X0_kindAt.all (chk cX0_kindAt) = true := by decide +kernel
def f_X0_kindAt (N : Nat) (a0 : Int64) (a2 : Int32) (σ : Wd) : Option (Int32 × Wd) :=
  (f_X0_codeAt N a0 a2 σ).bind fun p1 => some (p1.1 >>> (3 &&& 31), p1.2)
def a_X0_kindAt (N : Nat) : List Value → Wd → Option (Int32 × Wd) := fun as σ => kSJ as (fun b0 r0 => kSI r0 (fun b1 r1 => kS0 r1 (f_X0_kindAt N b0 b1 σ)))
def ct_X0_kindAt (N : Nat) : List (Nat × Cal) := [(9, 2, 0, .inl (a_X0_codeAt N))]
set_option maxRecDepth 20000 in
theorem md_X0_kindAt (N : Nat) : MDOK T_X0_kindAt ft_X0 lt_X0 (ct_X0_kindAt N) cX0_kindAt RX0 2 := ⟨tc_X0_kindAt, fc_X0, lc_X0, List.forall_mem_cons.mpr ⟨Or.inl ⟨yX0_codeAt, cX0_codeAt, 3, (some .int), 1, k_X0_9, Nat.le_of_ble_eq_true rfl, C_X0_codeAt N⟩, (fun _ z => absurd z List.not_mem_nil)⟩⟩
set_option maxRecDepth 20000 in
theorem C_X0_kindAt (N : Nat) : CTI 2 yX0_kindAt cX0_kindAt 3 (some .int) (a_X0_kindAt N) := by
  refine CTI.of (own := RX0) (by decide) rfl (fun as σ r h => ?_)
  unfold a_X0_kindAt at h
  obtain ⟨b0, r0, rfl, h0⟩ := kSJ_s h
  obtain ⟨b1, r1, rfl, h1⟩ := kSI_s h0
  obtain ⟨rfl, h9⟩ := kS0_s h1
  exact ⟨Nat.le_of_ble_eq_true rfl, by refine GO.to (md_X0_kindAt N) (kl := []) ((fun _ z => absurd z List.not_mem_nil)) 11 ?_ ?_ <;> rfl⟩
def T_X0_widthAt : List (Nat × Ent) := [(0, .lload_n 0, 1, []), (1, .iload_n 2, 2, []), (2, .invokestatic 9, 5, []), (5, .bipush 7, 7, []), (7, .iand, 8, []), (8, .ireturn, 9, [])]
set_option maxRecDepth 20000 in
theorem tc_X0_widthAt : T_X0_widthAt.all (chk cX0_widthAt) = true := by decide +kernel
def f_X0_widthAt (N : Nat) (a0 : Int64) (a2 : Int32) (σ : Wd) : Option (Int32 × Wd) :=
  (f_X0_codeAt N a0 a2 σ).bind fun p1 => some (p1.1 &&& 7, p1.2)
def a_X0_widthAt (N : Nat) : List Value → Wd → Option (Int32 × Wd) := fun as σ => kSJ as (fun b0 r0 => kSI r0 (fun b1 r1 => kS0 r1 (f_X0_widthAt N b0 b1 σ)))
def ct_X0_widthAt (N : Nat) : List (Nat × Cal) := [(9, 2, 0, .inl (a_X0_codeAt N))]
set_option maxRecDepth 20000 in
theorem md_X0_widthAt (N : Nat) : MDOK T_X0_widthAt ft_X0 lt_X0 (ct_X0_widthAt N) cX0_widthAt RX0 2 := ⟨tc_X0_widthAt, fc_X0, lc_X0, List.forall_mem_cons.mpr ⟨Or.inl ⟨yX0_codeAt, cX0_codeAt, 3, (some .int), 1, k_X0_9, Nat.le_of_ble_eq_true rfl, C_X0_codeAt N⟩, (fun _ z => absurd z List.not_mem_nil)⟩⟩
set_option maxRecDepth 20000 in
theorem C_X0_widthAt (N : Nat) : CTI 2 yX0_widthAt cX0_widthAt 3 (some .int) (a_X0_widthAt N) := by
  refine CTI.of (own := RX0) (by decide) rfl (fun as σ r h => ?_)
  unfold a_X0_widthAt at h
  obtain ⟨b0, r0, rfl, h0⟩ := kSJ_s h
  obtain ⟨b1, r1, rfl, h1⟩ := kSI_s h0
  obtain ⟨rfl, h9⟩ := kS0_s h1
  exact ⟨Nat.le_of_ble_eq_true rfl, by refine GO.to (md_X0_widthAt N) (kl := []) ((fun _ z => absurd z List.not_mem_nil)) 11 ?_ ?_ <;> rfl⟩
def T_X0_width : List (Nat × Ent) := [(0, .iconst 0, 1, []), (1, .istore_n 2, 2, []), (2, .iconst 0, 3, []), (3, .istore_n 3, 4, []), (4, .iload_n 3, 5, []), (5, .bipush 8, 7, []), (7, .if_icmp .ge 17, 10, [24]), (10, .iload_n 2, 11, []), (11, .lload_n 0, 12, []), (12, .iload_n 3, 13, []), (13, .invokestatic 15, 16, []), (16, .iadd, 17, []), (17, .istore_n 2, 18, []), (18, .iinc 3 1, 21, []), (21, .goto (-17), 24, [4]), (24, .iload_n 2, 25, []), (25, .ireturn, 26, [])]
set_option maxRecDepth 20000 in
theorem tc_X0_width : T_X0_width.all (chk cX0_width) = true := by decide +kernel
def f_X0_width_L4 (N : Nat) (KO24 : Int32 → Wd → Option (Int32 × Wd)) : Nat → Int64 → Int32 → Int32 → Wd → Option (Int32 × Wd)
  | 0, _, _, _, _ => none
  | n + 1, x0, x2, x3, σ => if 8 ≤ x3 then (KO24 x2 σ) else ((f_X0_widthAt N x0 x3 σ).bind fun p1 => f_X0_width_L4 N KO24 n x0 (x2 + p1.1) (x3 + 1) p1.2)
def f_X0_width_J24 (N : Nat) (x2 : Int32) (σ : Wd) : Option (Int32 × Wd) :=
  some (x2, σ)
def f_X0_width (N : Nat) (a0 : Int64) (σ : Wd) : Option (Int32 × Wd) :=
  f_X0_width_L4 N (f_X0_width_J24 N) N a0 0 0 σ
def a_X0_width (N : Nat) : List Value → Wd → Option (Int32 × Wd) := fun as σ => kSJ as (fun b0 r0 => kS0 r0 (f_X0_width N b0 σ))
set_option maxRecDepth 20000 in
theorem k_X0_15 : calchk RX0 15 2 0 yX0_widthAt cX0_widthAt 3 (some .int) = true := by decide +kernel
def ct_X0_width (N : Nat) : List (Nat × Cal) := [(15, 2, 0, .inl (a_X0_widthAt N))]
set_option maxRecDepth 20000 in
theorem md_X0_width (N : Nat) : MDOK T_X0_width ft_X0 lt_X0 (ct_X0_width N) cX0_width RX0 3 := ⟨tc_X0_width, fc_X0, lc_X0, List.forall_mem_cons.mpr ⟨Or.inl ⟨yX0_widthAt, cX0_widthAt, 3, (some .int), 2, k_X0_15, Nat.le_of_ble_eq_true rfl, C_X0_widthAt N⟩, (fun _ z => absurd z List.not_mem_nil)⟩⟩
set_option maxRecDepth 20000 in
theorem g_X0_width_L4 (N : Nat) (KO24 : Int32 → Wd → Option (Int32 × Wd)) (hKO24 : ∀ (x2 : Int32) (σ : Wd), GO cX0_width RX0 4 3 sc0 rI nJ0 nV0 (KO24 x2 σ) 24 (mkp 0 4 [(2, .int x2)]) [] σ) : ∀ (n : Nat), ∀ (x0 : Int64) (x2 : Int32) (x3 : Int32) (σ : Wd), GO cX0_width RX0 4 3 sc0 rI nJ0 nV0 (f_X0_width_L4 N KO24 n x0 x2 x3 σ) 4 (mkp 0 4 [(0, .long x0), (2, .int x2), (3, .int x3)]) [] σ
  | 0, x0, x2, x3, σ => GO.none
  | n + 1, x0, x2, x3, σ => by
    exact (by refine GO.to (md_X0_width N) (kl := [(24, fun vs st σ => kS0 st (kI 2 vs (fun x2 => KO24 x2 σ))), (4, fun vs st σ => kS0 st (kJ 0 vs (fun x0 => kI 2 vs (fun x2 => kI 3 vs (fun x3 => f_X0_width_L4 N KO24 n x0 x2 x3 σ)))))]) (List.forall_mem_cons.mpr ⟨fun vs st σ => go_kS0 (go_kI (fun x2 h2 => GO.pat [(2, .int x2)] ⟨h2, trivial⟩ (hKO24 x2 σ))), List.forall_mem_cons.mpr ⟨fun vs st σ => go_kS0 (go_kJ (fun x0 h0 => go_kI (fun x2 h2 => go_kI (fun x3 h3 => GO.pat [(0, .long x0), (2, .int x2), (3, .int x3)] ⟨h0, h2, h3, trivial⟩ (g_X0_width_L4 N KO24 hKO24 n x0 x2 x3 σ))))), (fun _ z => absurd z List.not_mem_nil)⟩⟩) 22 ?_ ?_ <;> rfl)
theorem g_X0_width_J24 (N : Nat) (x2 : Int32) (σ : Wd) : GO cX0_width RX0 4 3 sc0 rI nJ0 nV0 (f_X0_width_J24 N x2 σ) 24 (mkp 0 4 [(2, .int x2)]) [] σ := by
  exact (by refine GO.to (md_X0_width N) (kl := []) ((fun _ z => absurd z List.not_mem_nil)) 22 ?_ ?_ <;> rfl)
set_option maxRecDepth 20000 in
theorem C_X0_width (N : Nat) : CTI 3 yX0_width cX0_width 4 (some .int) (a_X0_width N) := by
  refine CTI.of (own := RX0) (by decide) rfl (fun as σ r h => ?_)
  unfold a_X0_width at h
  obtain ⟨b0, r0, rfl, h0⟩ := kSJ_s h
  obtain ⟨rfl, h9⟩ := kS0_s h0
  exact ⟨Nat.le_of_ble_eq_true rfl, by refine GO.to (md_X0_width N) (kl := [(4, fun vs st σ => kS0 st (kJ 0 vs (fun x0 => kI 2 vs (fun x2 => kI 3 vs (fun x3 => f_X0_width_L4 N (f_X0_width_J24 N) N x0 x2 x3 σ)))))]) (List.forall_mem_cons.mpr ⟨fun vs st σ => go_kS0 (go_kJ (fun x0 h0 => go_kI (fun x2 h2 => go_kI (fun x3 h3 => GO.pat [(0, .long x0), (2, .int x2), (3, .int x3)] ⟨h0, h2, h3, trivial⟩ (g_X0_width_L4 N (f_X0_width_J24 N) (g_X0_width_J24 N) N x0 x2 x3 σ))))), (fun _ z => absurd z List.not_mem_nil)⟩) 22 ?_ ?_ <;> rfl⟩
def T_X0_figureOf : List (Nat × Ent) := [(0, .iload_n 2, 1, []), (1, .bipush 8, 3, []), (3, .if_icmp .ge 11, 6, [14]), (6, .lload_n 0, 7, []), (7, .iload_n 2, 8, []), (8, .invokestatic 9, 11, []), (11, .ifCond .ne 6, 14, [17]), (14, .bipush (-2), 16, []), (16, .ireturn, 17, []), (17, .bipush 10, 19, []), (19, .lload_n 0, 20, []), (20, .iload_n 2, 21, []), (21, .invokestatic 18, 24, []), (24, .imul, 25, []), (25, .lload_n 0, 26, []), (26, .iload_n 2, 27, []), (27, .invokestatic 15, 30, []), (30, .iadd, 31, []), (31, .ireturn, 32, [])]
set_option maxRecDepth 20000 in
theorem tc_X0_figureOf : T_X0_figureOf.all (chk cX0_figureOf) = true := by decide +kernel
def f_X0_figureOf (N : Nat) (a0 : Int64) (a2 : Int32) (σ : Wd) : Option (Int32 × Wd) :=
  if 8 ≤ a2 then (some ((-2), σ)) else ((f_X0_codeAt N a0 a2 σ).bind fun p1 => if p1.1 = 0 then (some ((-2), p1.2)) else ((f_X0_kindAt N a0 a2 p1.2).bind fun p2 => (f_X0_widthAt N a0 a2 p2.2).bind fun p3 => some ((10 * p2.1) + p3.1, p3.2)))
def a_X0_figureOf (N : Nat) : List Value → Wd → Option (Int32 × Wd) := fun as σ => kSJ as (fun b0 r0 => kSI r0 (fun b1 r1 => kS0 r1 (f_X0_figureOf N b0 b1 σ)))
set_option maxRecDepth 20000 in
theorem k_X0_18 : calchk RX0 18 2 0 yX0_kindAt cX0_kindAt 3 (some .int) = true := by decide +kernel
def ct_X0_figureOf (N : Nat) : List (Nat × Cal) := [(9, 2, 0, .inl (a_X0_codeAt N)), (18, 2, 0, .inl (a_X0_kindAt N)), (15, 2, 0, .inl (a_X0_widthAt N))]
set_option maxRecDepth 20000 in
theorem md_X0_figureOf (N : Nat) : MDOK T_X0_figureOf ft_X0 lt_X0 (ct_X0_figureOf N) cX0_figureOf RX0 3 := ⟨tc_X0_figureOf, fc_X0, lc_X0, List.forall_mem_cons.mpr ⟨Or.inl ⟨yX0_codeAt, cX0_codeAt, 3, (some .int), 1, k_X0_9, Nat.le_of_ble_eq_true rfl, C_X0_codeAt N⟩, List.forall_mem_cons.mpr ⟨Or.inl ⟨yX0_kindAt, cX0_kindAt, 3, (some .int), 2, k_X0_18, Nat.le_of_ble_eq_true rfl, C_X0_kindAt N⟩, List.forall_mem_cons.mpr ⟨Or.inl ⟨yX0_widthAt, cX0_widthAt, 3, (some .int), 2, k_X0_15, Nat.le_of_ble_eq_true rfl, C_X0_widthAt N⟩, (fun _ z => absurd z List.not_mem_nil)⟩⟩⟩⟩
set_option maxRecDepth 20000 in
theorem C_X0_figureOf (N : Nat) : CTI 3 yX0_figureOf cX0_figureOf 3 (some .int) (a_X0_figureOf N) := by
  refine CTI.of (own := RX0) (by decide) rfl (fun as σ r h => ?_)
  unfold a_X0_figureOf at h
  obtain ⟨b0, r0, rfl, h0⟩ := kSJ_s h
  obtain ⟨b1, r1, rfl, h1⟩ := kSI_s h0
  obtain ⟨rfl, h9⟩ := kS0_s h1
  exact ⟨Nat.le_of_ble_eq_true rfl, by refine GO.to (md_X0_figureOf N) (kl := []) ((fun _ z => absurd z List.not_mem_nil)) 24 ?_ ?_ <;> rfl⟩
def ft_J6 : List (Nat × FTE) := []
def lt_J6 : List (Nat × Int64) := [(100265, 1431655765), (100266, 858993459), (100267, 252645135)]
theorem fc_J6 : ft_J6.all (fun e => fldchk RJ6 e && shchk e) = true := by decide +kernel
theorem lc_J6 : lt_J6.all (ltchk RJ6) = true := by decide +kernel
def T_J6_bitCount_0f7a4 : List (Nat × Ent) := [(0, .iload_n 0, 1, []), (1, .iload_n 0, 2, []), (2, .iconst 1, 3, []), (3, .iushr, 4, []), (4, .ldc_w 265, 7, []), (7, .iand, 8, []), (8, .isub, 9, []), (9, .istore_n 0, 10, []), (10, .iload_n 0, 11, []), (11, .ldc_w 266, 14, []), (14, .iand, 15, []), (15, .iload_n 0, 16, []), (16, .iconst 2, 17, []), (17, .iushr, 18, []), (18, .ldc_w 266, 21, []), (21, .iand, 22, []), (22, .iadd, 23, []), (23, .istore_n 0, 24, []), (24, .iload_n 0, 25, []), (25, .iload_n 0, 26, []), (26, .iconst 4, 27, []), (27, .iushr, 28, []), (28, .iadd, 29, []), (29, .ldc_w 267, 32, []), (32, .iand, 33, []), (33, .istore_n 0, 34, []), (34, .iload_n 0, 35, []), (35, .iload_n 0, 36, []), (36, .bipush 8, 38, []), (38, .iushr, 39, []), (39, .iadd, 40, []), (40, .istore_n 0, 41, []), (41, .iload_n 0, 42, []), (42, .iload_n 0, 43, []), (43, .bipush 16, 45, []), (45, .iushr, 46, []), (46, .iadd, 47, []), (47, .istore_n 0, 48, []), (48, .iload_n 0, 49, []), (49, .bipush 63, 51, []), (51, .iand, 52, []), (52, .ireturn, 53, [])]
set_option maxRecDepth 20000 in
theorem tc_J6_bitCount_0f7a4 : T_J6_bitCount_0f7a4.all (chk cJ6_bitCount_0f7a4) = true := by decide +kernel
def f_J6_bitCount_0f7a4 (N : Nat) (a0 : Int32) (σ : Wd) : Option (Int32 × Wd) :=
  some ((((((((a0 - (((Int32.toUInt32 a0 >>> (Int32.toUInt32 1 &&& Int32.toUInt32 31)).toInt32) &&& 1431655765)) &&& 858993459) + (((Int32.toUInt32 (a0 - (((Int32.toUInt32 a0 >>> (Int32.toUInt32 1 &&& Int32.toUInt32 31)).toInt32) &&& 1431655765)) >>> (Int32.toUInt32 2 &&& Int32.toUInt32 31)).toInt32) &&& 858993459)) + ((Int32.toUInt32 (((a0 - (((Int32.toUInt32 a0 >>> (Int32.toUInt32 1 &&& Int32.toUInt32 31)).toInt32) &&& 1431655765)) &&& 858993459) + (((Int32.toUInt32 (a0 - (((Int32.toUInt32 a0 >>> (Int32.toUInt32 1 &&& Int32.toUInt32 31)).toInt32) &&& 1431655765)) >>> (Int32.toUInt32 2 &&& Int32.toUInt32 31)).toInt32) &&& 858993459)) >>> (Int32.toUInt32 4 &&& Int32.toUInt32 31)).toInt32)) &&& 252645135) + ((Int32.toUInt32 (((((a0 - (((Int32.toUInt32 a0 >>> (Int32.toUInt32 1 &&& Int32.toUInt32 31)).toInt32) &&& 1431655765)) &&& 858993459) + (((Int32.toUInt32 (a0 - (((Int32.toUInt32 a0 >>> (Int32.toUInt32 1 &&& Int32.toUInt32 31)).toInt32) &&& 1431655765)) >>> (Int32.toUInt32 2 &&& Int32.toUInt32 31)).toInt32) &&& 858993459)) + ((Int32.toUInt32 (((a0 - (((Int32.toUInt32 a0 >>> (Int32.toUInt32 1 &&& Int32.toUInt32 31)).toInt32) &&& 1431655765)) &&& 858993459) + (((Int32.toUInt32 (a0 - (((Int32.toUInt32 a0 >>> (Int32.toUInt32 1 &&& Int32.toUInt32 31)).toInt32) &&& 1431655765)) >>> (Int32.toUInt32 2 &&& Int32.toUInt32 31)).toInt32) &&& 858993459)) >>> (Int32.toUInt32 4 &&& Int32.toUInt32 31)).toInt32)) &&& 252645135) >>> (Int32.toUInt32 8 &&& Int32.toUInt32 31)).toInt32)) + ((Int32.toUInt32 ((((((a0 - (((Int32.toUInt32 a0 >>> (Int32.toUInt32 1 &&& Int32.toUInt32 31)).toInt32) &&& 1431655765)) &&& 858993459) + (((Int32.toUInt32 (a0 - (((Int32.toUInt32 a0 >>> (Int32.toUInt32 1 &&& Int32.toUInt32 31)).toInt32) &&& 1431655765)) >>> (Int32.toUInt32 2 &&& Int32.toUInt32 31)).toInt32) &&& 858993459)) + ((Int32.toUInt32 (((a0 - (((Int32.toUInt32 a0 >>> (Int32.toUInt32 1 &&& Int32.toUInt32 31)).toInt32) &&& 1431655765)) &&& 858993459) + (((Int32.toUInt32 (a0 - (((Int32.toUInt32 a0 >>> (Int32.toUInt32 1 &&& Int32.toUInt32 31)).toInt32) &&& 1431655765)) >>> (Int32.toUInt32 2 &&& Int32.toUInt32 31)).toInt32) &&& 858993459)) >>> (Int32.toUInt32 4 &&& Int32.toUInt32 31)).toInt32)) &&& 252645135) + ((Int32.toUInt32 (((((a0 - (((Int32.toUInt32 a0 >>> (Int32.toUInt32 1 &&& Int32.toUInt32 31)).toInt32) &&& 1431655765)) &&& 858993459) + (((Int32.toUInt32 (a0 - (((Int32.toUInt32 a0 >>> (Int32.toUInt32 1 &&& Int32.toUInt32 31)).toInt32) &&& 1431655765)) >>> (Int32.toUInt32 2 &&& Int32.toUInt32 31)).toInt32) &&& 858993459)) + ((Int32.toUInt32 (((a0 - (((Int32.toUInt32 a0 >>> (Int32.toUInt32 1 &&& Int32.toUInt32 31)).toInt32) &&& 1431655765)) &&& 858993459) + (((Int32.toUInt32 (a0 - (((Int32.toUInt32 a0 >>> (Int32.toUInt32 1 &&& Int32.toUInt32 31)).toInt32) &&& 1431655765)) >>> (Int32.toUInt32 2 &&& Int32.toUInt32 31)).toInt32) &&& 858993459)) >>> (Int32.toUInt32 4 &&& Int32.toUInt32 31)).toInt32)) &&& 252645135) >>> (Int32.toUInt32 8 &&& Int32.toUInt32 31)).toInt32)) >>> (Int32.toUInt32 16 &&& Int32.toUInt32 31)).toInt32)) &&& 63, σ)
def a_J6_bitCount_0f7a4 (N : Nat) : List Value → Wd → Option (Int32 × Wd) := fun as σ => kSI as (fun b0 r0 => kS0 r0 (f_J6_bitCount_0f7a4 N b0 σ))
def ct_J6_bitCount_0f7a4 (N : Nat) : List (Nat × Cal) := []
set_option maxRecDepth 20000 in
theorem md_J6_bitCount_0f7a4 (N : Nat) : MDOK T_J6_bitCount_0f7a4 ft_J6 lt_J6 (ct_J6_bitCount_0f7a4 N) cJ6_bitCount_0f7a4 RJ6 1 := ⟨tc_J6_bitCount_0f7a4, fc_J6, lc_J6, (fun _ z => absurd z List.not_mem_nil)⟩
set_option maxRecDepth 20000 in
theorem C_J6_bitCount_0f7a4 (N : Nat) : CTI 1 yJ6_bitCount_0f7a4 cJ6_bitCount_0f7a4 1 (some .int) (a_J6_bitCount_0f7a4 N) := by
  refine CTI.of (own := RJ6) (by decide) rfl (fun as σ r h => ?_)
  unfold a_J6_bitCount_0f7a4 at h
  obtain ⟨b0, r0, rfl, h0⟩ := kSI_s h
  obtain ⟨rfl, h9⟩ := kS0_s h0
  exact ⟨Nat.le_of_ble_eq_true rfl, by refine GO.to (md_J6_bitCount_0f7a4 N) (kl := []) ((fun _ z => absurd z List.not_mem_nil)) 47 ?_ ?_ <;> rfl⟩
def ft_J13 : List (Nat × FTE) := []
def lt_J13 : List (Nat × Int64) := [(314, 6148914691236517205), (316, 3689348814741910323), (318, 1085102592571150095)]
theorem fc_J13 : ft_J13.all (fun e => fldchk RJ13 e && shchk e) = true := by decide +kernel
theorem lc_J13 : lt_J13.all (ltchk RJ13) = true := by decide +kernel
def T_J13_bitCount_95d88 : List (Nat × Ent) := [(0, .lload_n 0, 1, []), (1, .lload_n 0, 2, []), (2, .iconst 1, 3, []), (3, .lushr, 4, []), (4, .ldc2_w 314, 7, []), (7, .land, 8, []), (8, .lsub, 9, []), (9, .lstore_n 0, 10, []), (10, .lload_n 0, 11, []), (11, .ldc2_w 316, 14, []), (14, .land, 15, []), (15, .lload_n 0, 16, []), (16, .iconst 2, 17, []), (17, .lushr, 18, []), (18, .ldc2_w 316, 21, []), (21, .land, 22, []), (22, .ladd, 23, []), (23, .lstore_n 0, 24, []), (24, .lload_n 0, 25, []), (25, .lload_n 0, 26, []), (26, .iconst 4, 27, []), (27, .lushr, 28, []), (28, .ladd, 29, []), (29, .ldc2_w 318, 32, []), (32, .land, 33, []), (33, .lstore_n 0, 34, []), (34, .lload_n 0, 35, []), (35, .lload_n 0, 36, []), (36, .bipush 8, 38, []), (38, .lushr, 39, []), (39, .ladd, 40, []), (40, .lstore_n 0, 41, []), (41, .lload_n 0, 42, []), (42, .lload_n 0, 43, []), (43, .bipush 16, 45, []), (45, .lushr, 46, []), (46, .ladd, 47, []), (47, .lstore_n 0, 48, []), (48, .lload_n 0, 49, []), (49, .lload_n 0, 50, []), (50, .bipush 32, 52, []), (52, .lushr, 53, []), (53, .ladd, 54, []), (54, .lstore_n 0, 55, []), (55, .lload_n 0, 56, []), (56, .l2i, 57, []), (57, .bipush 127, 59, []), (59, .iand, 60, []), (60, .ireturn, 61, [])]
set_option maxRecDepth 20000 in
theorem tc_J13_bitCount_95d88 : T_J13_bitCount_95d88.all (chk cJ13_bitCount_95d88) = true := by decide +kernel
def f_J13_bitCount_95d88 (N : Nat) (a0 : Int64) (σ : Wd) : Option (Int32 × Wd) :=
  some ((Int64.toInt32 ((((((((a0 - (((Int64.toUInt64 a0 >>> (Int64.toUInt64 (Int32.toInt64 1) &&& Int64.toUInt64 63)).toInt64) &&& 6148914691236517205)) &&& 3689348814741910323) + (((Int64.toUInt64 (a0 - (((Int64.toUInt64 a0 >>> (Int64.toUInt64 (Int32.toInt64 1) &&& Int64.toUInt64 63)).toInt64) &&& 6148914691236517205)) >>> (Int64.toUInt64 (Int32.toInt64 2) &&& Int64.toUInt64 63)).toInt64) &&& 3689348814741910323)) + ((Int64.toUInt64 (((a0 - (((Int64.toUInt64 a0 >>> (Int64.toUInt64 (Int32.toInt64 1) &&& Int64.toUInt64 63)).toInt64) &&& 6148914691236517205)) &&& 3689348814741910323) + (((Int64.toUInt64 (a0 - (((Int64.toUInt64 a0 >>> (Int64.toUInt64 (Int32.toInt64 1) &&& Int64.toUInt64 63)).toInt64) &&& 6148914691236517205)) >>> (Int64.toUInt64 (Int32.toInt64 2) &&& Int64.toUInt64 63)).toInt64) &&& 3689348814741910323)) >>> (Int64.toUInt64 (Int32.toInt64 4) &&& Int64.toUInt64 63)).toInt64)) &&& 1085102592571150095) + ((Int64.toUInt64 (((((a0 - (((Int64.toUInt64 a0 >>> (Int64.toUInt64 (Int32.toInt64 1) &&& Int64.toUInt64 63)).toInt64) &&& 6148914691236517205)) &&& 3689348814741910323) + (((Int64.toUInt64 (a0 - (((Int64.toUInt64 a0 >>> (Int64.toUInt64 (Int32.toInt64 1) &&& Int64.toUInt64 63)).toInt64) &&& 6148914691236517205)) >>> (Int64.toUInt64 (Int32.toInt64 2) &&& Int64.toUInt64 63)).toInt64) &&& 3689348814741910323)) + ((Int64.toUInt64 (((a0 - (((Int64.toUInt64 a0 >>> (Int64.toUInt64 (Int32.toInt64 1) &&& Int64.toUInt64 63)).toInt64) &&& 6148914691236517205)) &&& 3689348814741910323) + (((Int64.toUInt64 (a0 - (((Int64.toUInt64 a0 >>> (Int64.toUInt64 (Int32.toInt64 1) &&& Int64.toUInt64 63)).toInt64) &&& 6148914691236517205)) >>> (Int64.toUInt64 (Int32.toInt64 2) &&& Int64.toUInt64 63)).toInt64) &&& 3689348814741910323)) >>> (Int64.toUInt64 (Int32.toInt64 4) &&& Int64.toUInt64 63)).toInt64)) &&& 1085102592571150095) >>> (Int64.toUInt64 (Int32.toInt64 8) &&& Int64.toUInt64 63)).toInt64)) + ((Int64.toUInt64 ((((((a0 - (((Int64.toUInt64 a0 >>> (Int64.toUInt64 (Int32.toInt64 1) &&& Int64.toUInt64 63)).toInt64) &&& 6148914691236517205)) &&& 3689348814741910323) + (((Int64.toUInt64 (a0 - (((Int64.toUInt64 a0 >>> (Int64.toUInt64 (Int32.toInt64 1) &&& Int64.toUInt64 63)).toInt64) &&& 6148914691236517205)) >>> (Int64.toUInt64 (Int32.toInt64 2) &&& Int64.toUInt64 63)).toInt64) &&& 3689348814741910323)) + ((Int64.toUInt64 (((a0 - (((Int64.toUInt64 a0 >>> (Int64.toUInt64 (Int32.toInt64 1) &&& Int64.toUInt64 63)).toInt64) &&& 6148914691236517205)) &&& 3689348814741910323) + (((Int64.toUInt64 (a0 - (((Int64.toUInt64 a0 >>> (Int64.toUInt64 (Int32.toInt64 1) &&& Int64.toUInt64 63)).toInt64) &&& 6148914691236517205)) >>> (Int64.toUInt64 (Int32.toInt64 2) &&& Int64.toUInt64 63)).toInt64) &&& 3689348814741910323)) >>> (Int64.toUInt64 (Int32.toInt64 4) &&& Int64.toUInt64 63)).toInt64)) &&& 1085102592571150095) + ((Int64.toUInt64 (((((a0 - (((Int64.toUInt64 a0 >>> (Int64.toUInt64 (Int32.toInt64 1) &&& Int64.toUInt64 63)).toInt64) &&& 6148914691236517205)) &&& 3689348814741910323) + (((Int64.toUInt64 (a0 - (((Int64.toUInt64 a0 >>> (Int64.toUInt64 (Int32.toInt64 1) &&& Int64.toUInt64 63)).toInt64) &&& 6148914691236517205)) >>> (Int64.toUInt64 (Int32.toInt64 2) &&& Int64.toUInt64 63)).toInt64) &&& 3689348814741910323)) + ((Int64.toUInt64 (((a0 - (((Int64.toUInt64 a0 >>> (Int64.toUInt64 (Int32.toInt64 1) &&& Int64.toUInt64 63)).toInt64) &&& 6148914691236517205)) &&& 3689348814741910323) + (((Int64.toUInt64 (a0 - (((Int64.toUInt64 a0 >>> (Int64.toUInt64 (Int32.toInt64 1) &&& Int64.toUInt64 63)).toInt64) &&& 6148914691236517205)) >>> (Int64.toUInt64 (Int32.toInt64 2) &&& Int64.toUInt64 63)).toInt64) &&& 3689348814741910323)) >>> (Int64.toUInt64 (Int32.toInt64 4) &&& Int64.toUInt64 63)).toInt64)) &&& 1085102592571150095) >>> (Int64.toUInt64 (Int32.toInt64 8) &&& Int64.toUInt64 63)).toInt64)) >>> (Int64.toUInt64 (Int32.toInt64 16) &&& Int64.toUInt64 63)).toInt64)) + ((Int64.toUInt64 (((((((a0 - (((Int64.toUInt64 a0 >>> (Int64.toUInt64 (Int32.toInt64 1) &&& Int64.toUInt64 63)).toInt64) &&& 6148914691236517205)) &&& 3689348814741910323) + (((Int64.toUInt64 (a0 - (((Int64.toUInt64 a0 >>> (Int64.toUInt64 (Int32.toInt64 1) &&& Int64.toUInt64 63)).toInt64) &&& 6148914691236517205)) >>> (Int64.toUInt64 (Int32.toInt64 2) &&& Int64.toUInt64 63)).toInt64) &&& 3689348814741910323)) + ((Int64.toUInt64 (((a0 - (((Int64.toUInt64 a0 >>> (Int64.toUInt64 (Int32.toInt64 1) &&& Int64.toUInt64 63)).toInt64) &&& 6148914691236517205)) &&& 3689348814741910323) + (((Int64.toUInt64 (a0 - (((Int64.toUInt64 a0 >>> (Int64.toUInt64 (Int32.toInt64 1) &&& Int64.toUInt64 63)).toInt64) &&& 6148914691236517205)) >>> (Int64.toUInt64 (Int32.toInt64 2) &&& Int64.toUInt64 63)).toInt64) &&& 3689348814741910323)) >>> (Int64.toUInt64 (Int32.toInt64 4) &&& Int64.toUInt64 63)).toInt64)) &&& 1085102592571150095) + ((Int64.toUInt64 (((((a0 - (((Int64.toUInt64 a0 >>> (Int64.toUInt64 (Int32.toInt64 1) &&& Int64.toUInt64 63)).toInt64) &&& 6148914691236517205)) &&& 3689348814741910323) + (((Int64.toUInt64 (a0 - (((Int64.toUInt64 a0 >>> (Int64.toUInt64 (Int32.toInt64 1) &&& Int64.toUInt64 63)).toInt64) &&& 6148914691236517205)) >>> (Int64.toUInt64 (Int32.toInt64 2) &&& Int64.toUInt64 63)).toInt64) &&& 3689348814741910323)) + ((Int64.toUInt64 (((a0 - (((Int64.toUInt64 a0 >>> (Int64.toUInt64 (Int32.toInt64 1) &&& Int64.toUInt64 63)).toInt64) &&& 6148914691236517205)) &&& 3689348814741910323) + (((Int64.toUInt64 (a0 - (((Int64.toUInt64 a0 >>> (Int64.toUInt64 (Int32.toInt64 1) &&& Int64.toUInt64 63)).toInt64) &&& 6148914691236517205)) >>> (Int64.toUInt64 (Int32.toInt64 2) &&& Int64.toUInt64 63)).toInt64) &&& 3689348814741910323)) >>> (Int64.toUInt64 (Int32.toInt64 4) &&& Int64.toUInt64 63)).toInt64)) &&& 1085102592571150095) >>> (Int64.toUInt64 (Int32.toInt64 8) &&& Int64.toUInt64 63)).toInt64)) + ((Int64.toUInt64 ((((((a0 - (((Int64.toUInt64 a0 >>> (Int64.toUInt64 (Int32.toInt64 1) &&& Int64.toUInt64 63)).toInt64) &&& 6148914691236517205)) &&& 3689348814741910323) + (((Int64.toUInt64 (a0 - (((Int64.toUInt64 a0 >>> (Int64.toUInt64 (Int32.toInt64 1) &&& Int64.toUInt64 63)).toInt64) &&& 6148914691236517205)) >>> (Int64.toUInt64 (Int32.toInt64 2) &&& Int64.toUInt64 63)).toInt64) &&& 3689348814741910323)) + ((Int64.toUInt64 (((a0 - (((Int64.toUInt64 a0 >>> (Int64.toUInt64 (Int32.toInt64 1) &&& Int64.toUInt64 63)).toInt64) &&& 6148914691236517205)) &&& 3689348814741910323) + (((Int64.toUInt64 (a0 - (((Int64.toUInt64 a0 >>> (Int64.toUInt64 (Int32.toInt64 1) &&& Int64.toUInt64 63)).toInt64) &&& 6148914691236517205)) >>> (Int64.toUInt64 (Int32.toInt64 2) &&& Int64.toUInt64 63)).toInt64) &&& 3689348814741910323)) >>> (Int64.toUInt64 (Int32.toInt64 4) &&& Int64.toUInt64 63)).toInt64)) &&& 1085102592571150095) + ((Int64.toUInt64 (((((a0 - (((Int64.toUInt64 a0 >>> (Int64.toUInt64 (Int32.toInt64 1) &&& Int64.toUInt64 63)).toInt64) &&& 6148914691236517205)) &&& 3689348814741910323) + (((Int64.toUInt64 (a0 - (((Int64.toUInt64 a0 >>> (Int64.toUInt64 (Int32.toInt64 1) &&& Int64.toUInt64 63)).toInt64) &&& 6148914691236517205)) >>> (Int64.toUInt64 (Int32.toInt64 2) &&& Int64.toUInt64 63)).toInt64) &&& 3689348814741910323)) + ((Int64.toUInt64 (((a0 - (((Int64.toUInt64 a0 >>> (Int64.toUInt64 (Int32.toInt64 1) &&& Int64.toUInt64 63)).toInt64) &&& 6148914691236517205)) &&& 3689348814741910323) + (((Int64.toUInt64 (a0 - (((Int64.toUInt64 a0 >>> (Int64.toUInt64 (Int32.toInt64 1) &&& Int64.toUInt64 63)).toInt64) &&& 6148914691236517205)) >>> (Int64.toUInt64 (Int32.toInt64 2) &&& Int64.toUInt64 63)).toInt64) &&& 3689348814741910323)) >>> (Int64.toUInt64 (Int32.toInt64 4) &&& Int64.toUInt64 63)).toInt64)) &&& 1085102592571150095) >>> (Int64.toUInt64 (Int32.toInt64 8) &&& Int64.toUInt64 63)).toInt64)) >>> (Int64.toUInt64 (Int32.toInt64 16) &&& Int64.toUInt64 63)).toInt64)) >>> (Int64.toUInt64 (Int32.toInt64 32) &&& Int64.toUInt64 63)).toInt64))) &&& 127, σ)
def a_J13_bitCount_95d88 (N : Nat) : List Value → Wd → Option (Int32 × Wd) := fun as σ => kSJ as (fun b0 r0 => kS0 r0 (f_J13_bitCount_95d88 N b0 σ))
def ct_J13_bitCount_95d88 (N : Nat) : List (Nat × Cal) := []
set_option maxRecDepth 20000 in
theorem md_J13_bitCount_95d88 (N : Nat) : MDOK T_J13_bitCount_95d88 ft_J13 lt_J13 (ct_J13_bitCount_95d88 N) cJ13_bitCount_95d88 RJ13 1 := ⟨tc_J13_bitCount_95d88, fc_J13, lc_J13, (fun _ z => absurd z List.not_mem_nil)⟩
set_option maxRecDepth 20000 in
theorem C_J13_bitCount_95d88 (N : Nat) : CTI 1 yJ13_bitCount_95d88 cJ13_bitCount_95d88 2 (some .int) (a_J13_bitCount_95d88 N) := by
  refine CTI.of (own := RJ13) (by decide) rfl (fun as σ r h => ?_)
  unfold a_J13_bitCount_95d88 at h
  obtain ⟨b0, r0, rfl, h0⟩ := kSJ_s h
  obtain ⟨rfl, h9⟩ := kS0_s h0
  exact ⟨Nat.le_of_ble_eq_true rfl, by refine GO.to (md_J13_bitCount_95d88 N) (kl := []) ((fun _ z => absurd z List.not_mem_nil)) 54 ?_ ?_ <;> rfl⟩
def f_J9_max_7cf53 (N : Nat) (x y : Int32) (σ : Wd) : Option (Int32 × Wd) := some (imax x y, σ)
def f_J9_min_7cf53 (N : Nat) (x y : Int32) (σ : Wd) : Option (Int32 × Wd) := some (imin x y, σ)
def ft_X7 : List (Nat × FTE) := [(11, 6, 0, 3), (15, 6, 1, 0), (40, 6, 2, 1)]
def lt_X7 : List (Nat × Int64) := []
theorem fc_X7 : ft_X7.all (fun e => fldchk RX7 e && shchk e) = true := by decide +kernel
theorem lc_X7 : lt_X7.all (ltchk RX7) = true := by decide +kernel
def T_X7_append : List (Nat × Ent) := [(0, .aload_n 0, 1, []), (1, .getfield 15, 4, []), (4, .bipush 40, 6, []), (6, .if_icmp .lt 5, 9, [11]), (9, .iconst 0, 10, []), (10, .ireturn, 11, []), (11, .aload_n 0, 12, []), (12, .getfield 11, 15, []), (15, .aload_n 0, 16, []), (16, .getfield 15, 19, []), (19, .iload_n 1, 20, []), (20, .iastore, 21, []), (21, .aload_n 0, 22, []), (22, .dup, 23, []), (23, .getfield 15, 26, []), (26, .iconst 1, 27, []), (27, .iadd, 28, []), (28, .putfield 15, 31, []), (31, .iconst 1, 32, []), (32, .ireturn, 33, [])]
set_option maxRecDepth 20000 in
theorem tc_X7_append : T_X7_append.all (chk cX7_append) = true := by decide +kernel
def f_X7_append (N : Nat) (a1 : Int32) (σ : Wd) : Option (Int32 × Wd) :=
  if (σ.1 1 1) < 40 then ((xst σ 14 40 (σ.1 1 1) a1).bind fun σ1 => let σ2 : Wd := sF σ1 1 1 ((σ1.1 1 1) + 1)
  some (1, σ2)) else (some (0, σ))
def a_X7_append (N : Nat) : List Value → Wd → Option (Int32 × Wd) := fun as σ => kSE 1 as (fun r0 => kSI r0 (fun b1 r1 => kS0 r1 (f_X7_append N b1 σ))) (none)
def ct_X7_append (N : Nat) : List (Nat × Cal) := []
set_option maxRecDepth 20000 in
theorem md_X7_append (N : Nat) : MDOK T_X7_append ft_X7 lt_X7 (ct_X7_append N) cX7_append RX7 1 := ⟨tc_X7_append, fc_X7, lc_X7, (fun _ z => absurd z List.not_mem_nil)⟩
set_option maxRecDepth 20000 in
theorem C_X7_append (N : Nat) : CTI 1 yX7_append cX7_append 2 (some .boolean) (a_X7_append N) := by
  refine CTZ.of (own := RX7) (by decide) rfl (fun as σ r h => ?_)
  unfold a_X7_append at h
  rcases kSE_s h with ⟨r0, rfl, h0⟩ | hn
  ·
    obtain ⟨b1, r1, rfl, h1⟩ := kSI_s h0
    obtain ⟨rfl, h9⟩ := kS0_s h1
    exact ⟨Nat.le_of_ble_eq_true rfl, by refine GO.to (md_X7_append N) (kl := []) ((fun _ z => absurd z List.not_mem_nil)) 25 ?_ ?_ <;> rfl⟩
  cases hn
def T_X7_nameCode : List (Nat × Ent) := [(0, .iconst 0, 1, []), (1, .istore_n 2, 2, []), (2, .iconst 0, 3, []), (3, .istore_n 3, 4, []), (4, .iload_n 3, 5, []), (5, .iload_n 1, 6, []), (6, .if_icmp .ge 23, 9, [29]), (9, .iload_n 2, 10, []), (10, .aload_n 0, 11, []), (11, .getfield 11, 14, []), (14, .iload_n 3, 15, []), (15, .iaload, 16, []), (16, .bipush 8, 18, []), (18, .iload_n 3, 19, []), (19, .imul, 20, []), (20, .ishl, 21, []), (21, .ior, 22, []), (22, .istore_n 2, 23, []), (23, .iinc 3 1, 26, []), (26, .goto (-22), 29, [4]), (29, .iload_n 2, 30, []), (30, .ireturn, 31, [])]
set_option maxRecDepth 20000 in
theorem tc_X7_nameCode : T_X7_nameCode.all (chk cX7_nameCode) = true := by decide +kernel
def f_X7_nameCode_L4 (N : Nat) (KO29 : Int32 → Wd → Option (Int32 × Wd)) : Nat → Int32 → Int32 → Int32 → Wd → Option (Int32 × Wd)
  | 0, _, _, _, _ => none
  | n + 1, x1, x2, x3, σ => if x1 ≤ x3 then (KO29 x2 σ) else ((xld σ 14 40 x3).bind fun v1 => f_X7_nameCode_L4 N KO29 n x1 (x2 ||| (v1 <<< ((8 * x3) &&& 31))) (x3 + 1) σ)
def f_X7_nameCode_J29 (N : Nat) (x2 : Int32) (σ : Wd) : Option (Int32 × Wd) :=
  some (x2, σ)
def f_X7_nameCode (N : Nat) (a1 : Int32) (σ : Wd) : Option (Int32 × Wd) :=
  f_X7_nameCode_L4 N (f_X7_nameCode_J29 N) N a1 0 0 σ
def a_X7_nameCode (N : Nat) : List Value → Wd → Option (Int32 × Wd) := fun as σ => kSE 1 as (fun r0 => kSI r0 (fun b1 r1 => kS0 r1 (f_X7_nameCode N b1 σ))) (none)
def ct_X7_nameCode (N : Nat) : List (Nat × Cal) := []
set_option maxRecDepth 20000 in
theorem md_X7_nameCode (N : Nat) : MDOK T_X7_nameCode ft_X7 lt_X7 (ct_X7_nameCode N) cX7_nameCode RX7 1 := ⟨tc_X7_nameCode, fc_X7, lc_X7, (fun _ z => absurd z List.not_mem_nil)⟩
set_option maxRecDepth 20000 in
theorem g_X7_nameCode_L4 (N : Nat) (KO29 : Int32 → Wd → Option (Int32 × Wd)) (hKO29 : ∀ (x2 : Int32) (σ : Wd), GO cX7_nameCode RX7 4 1 sc0 rI nJ0 nV0 (KO29 x2 σ) 29 (mkp 0 4 [(2, .int x2)]) [] σ) : ∀ (n : Nat), ∀ (x1 : Int32) (x2 : Int32) (x3 : Int32) (σ : Wd), GO cX7_nameCode RX7 4 1 sc0 rI nJ0 nV0 (f_X7_nameCode_L4 N KO29 n x1 x2 x3 σ) 4 (mkp 0 4 [(0, .ref 1), (1, .int x1), (2, .int x2), (3, .int x3)]) [] σ
  | 0, x1, x2, x3, σ => GO.none
  | n + 1, x1, x2, x3, σ => by
    exact (by refine GO.to (md_X7_nameCode N) (kl := [(29, fun vs st σ => kS0 st (kI 2 vs (fun x2 => KO29 x2 σ))), (4, fun vs st σ => kS0 st (kA 0 1 vs (kI 1 vs (fun x1 => kI 2 vs (fun x2 => kI 3 vs (fun x3 => f_X7_nameCode_L4 N KO29 n x1 x2 x3 σ))))))]) (List.forall_mem_cons.mpr ⟨fun vs st σ => go_kS0 (go_kI (fun x2 h2 => GO.pat [(2, .int x2)] ⟨h2, trivial⟩ (hKO29 x2 σ))), List.forall_mem_cons.mpr ⟨fun vs st σ => go_kS0 (go_kA (fun h0 => go_kI (fun x1 h1 => go_kI (fun x2 h2 => go_kI (fun x3 h3 => GO.pat [(0, .ref 1), (1, .int x1), (2, .int x2), (3, .int x3)] ⟨h0, h1, h2, h3, trivial⟩ (g_X7_nameCode_L4 N KO29 hKO29 n x1 x2 x3 σ)))))), (fun _ z => absurd z List.not_mem_nil)⟩⟩) 27 ?_ ?_ <;> rfl)
theorem g_X7_nameCode_J29 (N : Nat) (x2 : Int32) (σ : Wd) : GO cX7_nameCode RX7 4 1 sc0 rI nJ0 nV0 (f_X7_nameCode_J29 N x2 σ) 29 (mkp 0 4 [(2, .int x2)]) [] σ := by
  exact (by refine GO.to (md_X7_nameCode N) (kl := []) ((fun _ z => absurd z List.not_mem_nil)) 27 ?_ ?_ <;> rfl)
set_option maxRecDepth 20000 in
theorem C_X7_nameCode (N : Nat) : CTI 1 yX7_nameCode cX7_nameCode 4 (some .int) (a_X7_nameCode N) := by
  refine CTI.of (own := RX7) (by decide) rfl (fun as σ r h => ?_)
  unfold a_X7_nameCode at h
  rcases kSE_s h with ⟨r0, rfl, h0⟩ | hn
  ·
    obtain ⟨b1, r1, rfl, h1⟩ := kSI_s h0
    obtain ⟨rfl, h9⟩ := kS0_s h1
    exact ⟨Nat.le_of_ble_eq_true rfl, by refine GO.to (md_X7_nameCode N) (kl := [(4, fun vs st σ => kS0 st (kA 0 1 vs (kI 1 vs (fun x1 => kI 2 vs (fun x2 => kI 3 vs (fun x3 => f_X7_nameCode_L4 N (f_X7_nameCode_J29 N) N x1 x2 x3 σ))))))]) (List.forall_mem_cons.mpr ⟨fun vs st σ => go_kS0 (go_kA (fun h0 => go_kI (fun x1 h1 => go_kI (fun x2 h2 => go_kI (fun x3 h3 => GO.pat [(0, .ref 1), (1, .int x1), (2, .int x2), (3, .int x3)] ⟨h0, h1, h2, h3, trivial⟩ (g_X7_nameCode_L4 N (f_X7_nameCode_J29 N) (g_X7_nameCode_J29 N) N x1 x2 x3 σ)))))), (fun _ z => absurd z List.not_mem_nil)⟩) 27 ?_ ?_ <;> rfl⟩
  cases hn
def T_X7_isLetter : List (Nat × Ent) := [(0, .iload_n 0, 1, []), (1, .bipush 97, 3, []), (3, .if_icmp .lt 13, 6, [16]), (6, .iload_n 0, 7, []), (7, .bipush 122, 9, []), (9, .if_icmp .gt 7, 12, [16]), (12, .iconst 1, 13, []), (13, .goto 4, 16, [17]), (16, .iconst 0, 17, []), (17, .ireturn, 18, [])]
set_option maxRecDepth 20000 in
theorem tc_X7_isLetter : T_X7_isLetter.all (chk cX7_isLetter) = true := by decide +kernel
def f_X7_isLetter (N : Nat) (a0 : Int32) (σ : Wd) : Option (Int32 × Wd) :=
  if a0 < 97 then (some (0, σ)) else (if 122 < a0 then (some (0, σ)) else (some (1, σ)))
def a_X7_isLetter (N : Nat) : List Value → Wd → Option (Int32 × Wd) := fun as σ => kSI as (fun b0 r0 => kS0 r0 (f_X7_isLetter N b0 σ))
def ct_X7_isLetter (N : Nat) : List (Nat × Cal) := []
set_option maxRecDepth 20000 in
theorem md_X7_isLetter (N : Nat) : MDOK T_X7_isLetter ft_X7 lt_X7 (ct_X7_isLetter N) cX7_isLetter RX7 1 := ⟨tc_X7_isLetter, fc_X7, lc_X7, (fun _ z => absurd z List.not_mem_nil)⟩
set_option maxRecDepth 20000 in
theorem C_X7_isLetter (N : Nat) : CTI 1 yX7_isLetter cX7_isLetter 1 (some .boolean) (a_X7_isLetter N) := by
  refine CTZ.of (own := RX7) (by decide) rfl (fun as σ r h => ?_)
  unfold a_X7_isLetter at h
  obtain ⟨b0, r0, rfl, h0⟩ := kSI_s h
  obtain ⟨rfl, h9⟩ := kS0_s h0
  exact ⟨Nat.le_of_ble_eq_true rfl, by refine GO.to (md_X7_isLetter N) (kl := []) ((fun _ z => absurd z List.not_mem_nil)) 15 ?_ ?_ <;> rfl⟩
def T_X7_kindOf : List (Nat × Ent) := [(0, .iload_n 0, 1, []), (1, .lookupswitch 51 #[(99, 47), (108, 49), (114, 43), (115, 45)], 44, [52, 48, 50, 44, 46]), (44, .iconst 0, 45, []), (45, .ireturn, 46, []), (46, .iconst 1, 47, []), (47, .ireturn, 48, []), (48, .iconst 2, 49, []), (49, .ireturn, 50, []), (50, .iconst 3, 51, []), (51, .ireturn, 52, []), (52, .iconst (-1), 53, []), (53, .ireturn, 54, [])]
set_option maxRecDepth 20000 in
theorem tc_X7_kindOf : T_X7_kindOf.all (chk cX7_kindOf) = true := by decide +kernel
def f_X7_kindOf (N : Nat) (a0 : Int32) (σ : Wd) : Option (Int32 × Wd) :=
  if a0 = 99 then (some (2, σ)) else if a0 = 108 then (some (3, σ)) else if a0 = 114 then (some (0, σ)) else if a0 = 115 then (some (1, σ)) else (some ((-1), σ))
def a_X7_kindOf (N : Nat) : List Value → Wd → Option (Int32 × Wd) := fun as σ => kSI as (fun b0 r0 => kS0 r0 (f_X7_kindOf N b0 σ))
def ct_X7_kindOf (N : Nat) : List (Nat × Cal) := []
set_option maxRecDepth 20000 in
theorem md_X7_kindOf (N : Nat) : MDOK T_X7_kindOf ft_X7 lt_X7 (ct_X7_kindOf N) cX7_kindOf RX7 1 := ⟨tc_X7_kindOf, fc_X7, lc_X7, (fun _ z => absurd z List.not_mem_nil)⟩
set_option maxRecDepth 20000 in
theorem C_X7_kindOf (N : Nat) : CTI 1 yX7_kindOf cX7_kindOf 1 (some .int) (a_X7_kindOf N) := by
  refine CTI.of (own := RX7) (by decide) rfl (fun as σ r h => ?_)
  unfold a_X7_kindOf at h
  obtain ⟨b0, r0, rfl, h0⟩ := kSI_s h
  obtain ⟨rfl, h9⟩ := kS0_s h0
  exact ⟨Nat.le_of_ble_eq_true rfl, by refine GO.to (md_X7_kindOf N) (kl := []) ((fun _ z => absurd z List.not_mem_nil)) 17 ?_ ?_ <;> rfl⟩
def T_X7_letters : List (Nat × Ent) := [(0, .iconst 0, 1, []), (1, .istore_n 1, 2, []), (2, .iload_n 1, 3, []), (3, .aload_n 0, 4, []), (4, .getfield 15, 7, []), (7, .if_icmp .ge 26, 10, [33]), (10, .iload_n 1, 11, []), (11, .iconst 4, 12, []), (12, .if_icmp .ge 21, 15, [33]), (15, .aload_n 0, 16, []), (16, .getfield 11, 19, []), (19, .iload_n 1, 20, []), (20, .iaload, 21, []), (21, .invokestatic 19, 24, []), (24, .ifCond .eq 9, 27, [33]), (27, .iinc 1 1, 30, []), (30, .goto (-28), 33, [2]), (33, .iload_n 1, 34, []), (34, .ireturn, 35, [])]
set_option maxRecDepth 20000 in
theorem tc_X7_letters : T_X7_letters.all (chk cX7_letters) = true := by decide +kernel
def f_X7_letters_L2 (N : Nat) (KO33 : Int32 → Wd → Option (Int32 × Wd)) : Nat → Int32 → Wd → Option (Int32 × Wd)
  | 0, _, _ => none
  | n + 1, x1, σ => if (σ.1 1 1) ≤ x1 then (KO33 x1 σ) else (if 4 ≤ x1 then (KO33 x1 σ) else ((xld σ 14 40 x1).bind fun v1 => (f_X7_isLetter N v1 σ).bind fun p2 => if p2.1 = 0 then (KO33 x1 p2.2) else (f_X7_letters_L2 N KO33 n (x1 + 1) p2.2)))
def f_X7_letters_J33 (N : Nat) (x1 : Int32) (σ : Wd) : Option (Int32 × Wd) :=
  some (x1, σ)
def f_X7_letters (N : Nat) (σ : Wd) : Option (Int32 × Wd) :=
  f_X7_letters_L2 N (f_X7_letters_J33 N) N 0 σ
def a_X7_letters (N : Nat) : List Value → Wd → Option (Int32 × Wd) := fun as σ => kSE 1 as (fun r0 => kS0 r0 (f_X7_letters N σ)) (none)
set_option maxRecDepth 20000 in
theorem k_X7_19 : calchk RX7 19 1 0 yX7_isLetter cX7_isLetter 1 (some .boolean) = true := by decide +kernel
def ct_X7_letters (N : Nat) : List (Nat × Cal) := [(19, 1, 0, .inl (a_X7_isLetter N))]
set_option maxRecDepth 20000 in
theorem md_X7_letters (N : Nat) : MDOK T_X7_letters ft_X7 lt_X7 (ct_X7_letters N) cX7_letters RX7 2 := ⟨tc_X7_letters, fc_X7, lc_X7, List.forall_mem_cons.mpr ⟨Or.inl ⟨yX7_isLetter, cX7_isLetter, 1, (some .boolean), 1, k_X7_19, Nat.le_of_ble_eq_true rfl, C_X7_isLetter N⟩, (fun _ z => absurd z List.not_mem_nil)⟩⟩
set_option maxRecDepth 20000 in
theorem g_X7_letters_L2 (N : Nat) (KO33 : Int32 → Wd → Option (Int32 × Wd)) (hKO33 : ∀ (x1 : Int32) (σ : Wd), GO cX7_letters RX7 2 2 sc0 rI nJ0 nV0 (KO33 x1 σ) 33 (mkp 0 2 [(1, .int x1)]) [] σ) : ∀ (n : Nat), ∀ (x1 : Int32) (σ : Wd), GO cX7_letters RX7 2 2 sc0 rI nJ0 nV0 (f_X7_letters_L2 N KO33 n x1 σ) 2 (mkp 0 2 [(0, .ref 1), (1, .int x1)]) [] σ
  | 0, x1, σ => GO.none
  | n + 1, x1, σ => by
    exact (by refine GO.to (md_X7_letters N) (kl := [(33, fun vs st σ => kS0 st (kI 1 vs (fun x1 => KO33 x1 σ))), (2, fun vs st σ => kS0 st (kA 0 1 vs (kI 1 vs (fun x1 => f_X7_letters_L2 N KO33 n x1 σ))))]) (List.forall_mem_cons.mpr ⟨fun vs st σ => go_kS0 (go_kI (fun x1 h1 => GO.pat [(1, .int x1)] ⟨h1, trivial⟩ (hKO33 x1 σ))), List.forall_mem_cons.mpr ⟨fun vs st σ => go_kS0 (go_kA (fun h0 => go_kI (fun x1 h1 => GO.pat [(0, .ref 1), (1, .int x1)] ⟨h0, h1, trivial⟩ (g_X7_letters_L2 N KO33 hKO33 n x1 σ)))), (fun _ z => absurd z List.not_mem_nil)⟩⟩) 24 ?_ ?_ <;> rfl)
theorem g_X7_letters_J33 (N : Nat) (x1 : Int32) (σ : Wd) : GO cX7_letters RX7 2 2 sc0 rI nJ0 nV0 (f_X7_letters_J33 N x1 σ) 33 (mkp 0 2 [(1, .int x1)]) [] σ := by
  exact (by refine GO.to (md_X7_letters N) (kl := []) ((fun _ z => absurd z List.not_mem_nil)) 24 ?_ ?_ <;> rfl)
set_option maxRecDepth 20000 in
theorem C_X7_letters (N : Nat) : CTI 2 yX7_letters cX7_letters 2 (some .int) (a_X7_letters N) := by
  refine CTI.of (own := RX7) (by decide) rfl (fun as σ r h => ?_)
  unfold a_X7_letters at h
  rcases kSE_s h with ⟨r0, rfl, h0⟩ | hn
  ·
    obtain ⟨rfl, h9⟩ := kS0_s h0
    exact ⟨Nat.le_of_ble_eq_true rfl, by refine GO.to (md_X7_letters N) (kl := [(2, fun vs st σ => kS0 st (kA 0 1 vs (kI 1 vs (fun x1 => f_X7_letters_L2 N (f_X7_letters_J33 N) N x1 σ))))]) (List.forall_mem_cons.mpr ⟨fun vs st σ => go_kS0 (go_kA (fun h0 => go_kI (fun x1 h1 => GO.pat [(0, .ref 1), (1, .int x1)] ⟨h0, h1, trivial⟩ (g_X7_letters_L2 N (f_X7_letters_J33 N) (g_X7_letters_J33 N) N x1 σ)))), (fun _ z => absurd z List.not_mem_nil)⟩) 24 ?_ ?_ <;> rfl⟩
  cases hn
def T_X7_takeName : List (Nat × Ent) := [(0, .aload_n 0, 1, []), (1, .invokevirtual 23, 4, []), (4, .istore_n 1, 5, []), (5, .iload_n 1, 6, []), (6, .aload_n 0, 7, []), (7, .getfield 15, 10, []), (10, .if_icmp .ne 11, 13, [21]), (13, .aload_n 0, 14, []), (14, .iload_n 1, 15, []), (15, .invokevirtual 27, 18, []), (18, .goto 4, 21, [22]), (21, .iconst 0, 22, []), (22, .istore_n 2, 23, []), (23, .aload_n 0, 24, []), (24, .iconst 0, 25, []), (25, .putfield 15, 28, []), (28, .iload_n 2, 29, []), (29, .ireturn, 30, [])]
set_option maxRecDepth 20000 in
theorem tc_X7_takeName : T_X7_takeName.all (chk cX7_takeName) = true := by decide +kernel
def f_X7_takeName (N : Nat) (σ : Wd) : Option (Int32 × Wd) :=
  (f_X7_letters N σ).bind fun p1 => if p1.1 = (p1.2.1 1 1) then ((f_X7_nameCode N p1.1 p1.2).bind fun p2 => let σ3 : Wd := sF p2.2 1 1 0
  some (p2.1, σ3)) else (let σ4 : Wd := sF p1.2 1 1 0
  some (0, σ4))
def a_X7_takeName (N : Nat) : List Value → Wd → Option (Int32 × Wd) := fun as σ => kSE 1 as (fun r0 => kS0 r0 (f_X7_takeName N σ)) (none)
set_option maxRecDepth 20000 in
theorem k_X7_23 : calchk RX7 23 1 7 yX7_letters cX7_letters 2 (some .int) = true := by decide +kernel
set_option maxRecDepth 20000 in
theorem k_X7_27 : calchk RX7 27 2 7 yX7_nameCode cX7_nameCode 4 (some .int) = true := by decide +kernel
def ct_X7_takeName (N : Nat) : List (Nat × Cal) := [(23, 1, 7, .inl (a_X7_letters N)), (27, 2, 7, .inl (a_X7_nameCode N))]
set_option maxRecDepth 20000 in
theorem md_X7_takeName (N : Nat) : MDOK T_X7_takeName ft_X7 lt_X7 (ct_X7_takeName N) cX7_takeName RX7 3 := ⟨tc_X7_takeName, fc_X7, lc_X7, List.forall_mem_cons.mpr ⟨Or.inl ⟨yX7_letters, cX7_letters, 2, (some .int), 2, k_X7_23, Nat.le_of_ble_eq_true rfl, C_X7_letters N⟩, List.forall_mem_cons.mpr ⟨Or.inl ⟨yX7_nameCode, cX7_nameCode, 4, (some .int), 1, k_X7_27, Nat.le_of_ble_eq_true rfl, C_X7_nameCode N⟩, (fun _ z => absurd z List.not_mem_nil)⟩⟩⟩
set_option maxRecDepth 20000 in
theorem C_X7_takeName (N : Nat) : CTI 3 yX7_takeName cX7_takeName 3 (some .int) (a_X7_takeName N) := by
  refine CTI.of (own := RX7) (by decide) rfl (fun as σ r h => ?_)
  unfold a_X7_takeName at h
  rcases kSE_s h with ⟨r0, rfl, h0⟩ | hn
  ·
    obtain ⟨rfl, h9⟩ := kS0_s h0
    exact ⟨Nat.le_of_ble_eq_true rfl, by refine GO.to (md_X7_takeName N) (kl := []) ((fun _ z => absurd z List.not_mem_nil)) 23 ?_ ?_ <;> rfl⟩
  cases hn
def T_X7_parse : List (Nat × Ent) := [(0, .aload_n 0, 1, []), (1, .invokevirtual 23, 4, []), (4, .istore_n 1, 5, []), (5, .iload_n 1, 6, []), (6, .ifCond .eq 22, 9, [28]), (9, .iload_n 1, 10, []), (10, .aload_n 0, 11, []), (11, .getfield 15, 14, []), (14, .if_icmp .ge 14, 17, [28]), (17, .aload_n 0, 18, []), (18, .getfield 11, 21, []), (21, .iload_n 1, 22, []), (22, .iaload, 23, []), (23, .bipush 61, 25, []), (25, .if_icmp .eq 5, 28, [30]), (28, .iload_n 1, 29, []), (29, .ireturn, 30, []), (30, .iinc 1 1, 33, []), (33, .lconst 0, 34, []), (34, .lstore_n 2, 35, []), (35, .iconst 0, 36, []), (36, .istore 4, 38, []), (38, .iconst 0, 39, []), (39, .istore 5, 41, []), (41, .iload_n 1, 42, []), (42, .aload_n 0, 43, []), (43, .getfield 15, 46, []), (46, .if_icmp .ge 113, 49, [159]), (49, .aload_n 0, 50, []), (50, .getfield 11, 53, []), (53, .iload_n 1, 54, []), (54, .iaload, 55, []), (55, .invokestatic 31, 58, []), (58, .istore 6, 60, []), (60, .iload 6, 62, []), (62, .ifCond .lt 17, 65, [79]), (65, .iload 4, 67, []), (67, .bipush 8, 69, []), (69, .if_icmp .eq 10, 72, [79]), (72, .iload 5, 74, []), (74, .bipush 12, 76, []), (76, .if_icmp .ne 5, 79, [81]), (79, .iload_n 1, 80, []), (80, .ireturn, 81, []), (81, .iinc 1 1, 84, []), (84, .iload_n 1, 85, []), (85, .aload_n 0, 86, []), (86, .getfield 15, 89, []), (89, .if_icmp .ge 15, 92, [104]), (92, .aload_n 0, 93, []), (93, .getfield 11, 96, []), (96, .iload_n 1, 97, []), (97, .iaload, 98, []), (98, .bipush 48, 100, []), (100, .isub, 101, []), (101, .goto 4, 104, [105]), (104, .iconst 0, 105, []), (105, .istore 7, 107, []), (107, .iload 7, 109, []), (109, .iconst 1, 110, []), (110, .if_icmp .lt 20, 113, [130]), (113, .iload 7, 115, []), (115, .bipush 6, 117, []), (117, .if_icmp .gt 13, 120, [130]), (120, .iload 5, 122, []), (122, .iload 7, 124, []), (124, .iadd, 125, []), (125, .bipush 12, 127, []), (127, .if_icmp .le 5, 130, [132]), (130, .iload_n 1, 131, []), (131, .ireturn, 132, []), (132, .iinc 1 1, 135, []), (135, .lload_n 2, 136, []), (136, .iload 4, 138, []), (138, .iload 6, 140, []), (140, .iload 7, 142, []), (142, .invokestatic 34, 145, []), (145, .lstore_n 2, 146, []), (146, .iinc 4 1, 149, []), (149, .iload 5, 151, []), (151, .iload 7, 153, []), (153, .iadd, 154, []), (154, .istore 5, 156, []), (156, .goto (-115), 159, [41]), (159, .aload_n 0, 160, []), (160, .lload_n 2, 161, []), (161, .putfield 40, 164, []), (164, .iload 4, 166, []), (166, .ifCond .ne 7, 169, [173]), (169, .iload_n 1, 170, []), (170, .goto 4, 173, [174]), (173, .iconst (-1), 174, []), (174, .ireturn, 175, [])]
set_option maxRecDepth 20000 in
theorem tc_X7_parse : T_X7_parse.all (chk cX7_parse) = true := by decide +kernel
def f_X7_parse_J105 (N : Nat) (KB : Int32 → Int64 → Int32 → Int32 → Wd → Option (Int32 × Wd)) (KO159 : Int32 → Int64 → Int32 → Wd → Option (Int32 × Wd)) (x1 : Int32) (x2 : Int64) (x4 : Int32) (x5 : Int32) (x6 : Int32) (y0 : Int32) (σ : Wd) : Option (Int32 × Wd) :=
  if y0 < 1 then (some (x1, σ)) else (if 6 < y0 then (some (x1, σ)) else (if (x5 + y0) ≤ 12 then ((f_X0_with N x2 x4 x6 y0 σ).bind fun p5 => KB (x1 + 1) p5.1 (x4 + 1) (x5 + y0) p5.2) else (some (x1, σ))))
def f_X7_parse_L41 (N : Nat) (KO159 : Int32 → Int64 → Int32 → Wd → Option (Int32 × Wd)) : Nat → Int32 → Int64 → Int32 → Int32 → Wd → Option (Int32 × Wd)
  | 0, _, _, _, _, _ => none
  | n + 1, x1, x2, x4, x5, σ => if (σ.1 1 1) ≤ x1 then (KO159 x1 x2 x4 σ) else ((xld σ 14 40 x1).bind fun v3 => (f_X7_kindOf N v3 σ).bind fun p4 => if p4.1 < 0 then (some (x1, p4.2)) else (if x4 = 8 then (some (x1, p4.2)) else (if x5 = 12 then (some (x1, p4.2)) else (if (p4.2.1 1 1) ≤ (x1 + 1) then (f_X7_parse_J105 N (f_X7_parse_L41 N KO159 n) KO159 (x1 + 1) x2 x4 x5 p4.1 0 p4.2) else ((xld p4.2 14 40 (x1 + 1)).bind fun v6 => f_X7_parse_J105 N (f_X7_parse_L41 N KO159 n) KO159 (x1 + 1) x2 x4 x5 p4.1 (v6 - 48) p4.2)))))
def f_X7_parse_J159 (N : Nat) (x1 : Int32) (x2 : Int64) (x4 : Int32) (σ : Wd) : Option (Int32 × Wd) :=
  let σ7 : Wd := sG σ 1 2 x2
  if x4 = 0 then (some (x1, σ7)) else (some ((-1), σ7))
def f_X7_parse (N : Nat) (σ : Wd) : Option (Int32 × Wd) :=
  (f_X7_letters N σ).bind fun p1 => if p1.1 = 0 then (some (p1.1, p1.2)) else (if (p1.2.1 1 1) ≤ p1.1 then (some (p1.1, p1.2)) else ((xld p1.2 14 40 p1.1).bind fun v2 => if v2 = 61 then (f_X7_parse_L41 N (f_X7_parse_J159 N) N (p1.1 + 1) 0 0 0 p1.2) else (some (p1.1, p1.2))))
def a_X7_parse (N : Nat) : List Value → Wd → Option (Int32 × Wd) := fun as σ => kSE 1 as (fun r0 => kS0 r0 (f_X7_parse N σ)) (none)
set_option maxRecDepth 20000 in
theorem k_X7_31 : calchk RX7 31 1 0 yX7_kindOf cX7_kindOf 1 (some .int) = true := by decide +kernel
set_option maxRecDepth 20000 in
theorem k_X7_34 : calchk RX7 34 4 0 yX0_with cX0_with 5 (some .long) = true := by decide +kernel
def ct_X7_parse (N : Nat) : List (Nat × Cal) := [(23, 1, 7, .inl (a_X7_letters N)), (31, 1, 0, .inl (a_X7_kindOf N)), (34, 4, 0, .inr (.inl (a_X0_with N)))]
set_option maxRecDepth 20000 in
theorem md_X7_parse (N : Nat) : MDOK T_X7_parse ft_X7 lt_X7 (ct_X7_parse N) cX7_parse RX7 3 := ⟨tc_X7_parse, fc_X7, lc_X7, List.forall_mem_cons.mpr ⟨Or.inl ⟨yX7_letters, cX7_letters, 2, (some .int), 2, k_X7_23, Nat.le_of_ble_eq_true rfl, C_X7_letters N⟩, List.forall_mem_cons.mpr ⟨Or.inl ⟨yX7_kindOf, cX7_kindOf, 1, (some .int), 1, k_X7_31, Nat.le_of_ble_eq_true rfl, C_X7_kindOf N⟩, List.forall_mem_cons.mpr ⟨Or.inl ⟨yX0_with, cX0_with, 5, (some .long), 1, k_X7_34, Nat.le_of_ble_eq_true rfl, C_X0_with N⟩, (fun _ z => absurd z List.not_mem_nil)⟩⟩⟩⟩
theorem g_X7_parse_J105 (N : Nat) (KB : Int32 → Int64 → Int32 → Int32 → Wd → Option (Int32 × Wd)) (hKB : ∀ (x1 : Int32) (x2 : Int64) (x4 : Int32) (x5 : Int32) (σ : Wd), GO cX7_parse RX7 8 3 sc0 rI nJ0 nV0 (KB x1 x2 x4 x5 σ) 41 (mkp 0 8 [(0, .ref 1), (1, .int x1), (2, .long x2), (4, .int x4), (5, .int x5)]) [] σ) (KO159 : Int32 → Int64 → Int32 → Wd → Option (Int32 × Wd)) (hKO159 : ∀ (x1 : Int32) (x2 : Int64) (x4 : Int32) (σ : Wd), GO cX7_parse RX7 8 3 sc0 rI nJ0 nV0 (KO159 x1 x2 x4 σ) 159 (mkp 0 8 [(0, .ref 1), (1, .int x1), (2, .long x2), (4, .int x4)]) [] σ) (x1 : Int32) (x2 : Int64) (x4 : Int32) (x5 : Int32) (x6 : Int32) (y0 : Int32) (σ : Wd) : GO cX7_parse RX7 8 3 sc0 rI nJ0 nV0 (f_X7_parse_J105 N KB KO159 x1 x2 x4 x5 x6 y0 σ) 105 (mkp 0 8 [(0, .ref 1), (1, .int x1), (2, .long x2), (4, .int x4), (5, .int x5), (6, .int x6)]) [.int y0] σ := by
  exact (by refine GO.to (md_X7_parse N) (kl := [(41, fun vs st σ => kS0 st (kA 0 1 vs (kI 1 vs (fun x1 => kJ 2 vs (fun x2 => kI 4 vs (fun x4 => kI 5 vs (fun x5 => KB x1 x2 x4 x5 σ)))))))]) (List.forall_mem_cons.mpr ⟨fun vs st σ => go_kS0 (go_kA (fun h0 => go_kI (fun x1 h1 => go_kJ (fun x2 h2 => go_kI (fun x4 h4 => go_kI (fun x5 h5 => GO.pat [(0, .ref 1), (1, .int x1), (2, .long x2), (4, .int x4), (5, .int x5)] ⟨h0, h1, h2, h4, h5, trivial⟩ (hKB x1 x2 x4 x5 σ))))))), (fun _ z => absurd z List.not_mem_nil)⟩) 98 ?_ ?_ <;> rfl)
set_option maxRecDepth 20000 in
theorem g_X7_parse_L41 (N : Nat) (KO159 : Int32 → Int64 → Int32 → Wd → Option (Int32 × Wd)) (hKO159 : ∀ (x1 : Int32) (x2 : Int64) (x4 : Int32) (σ : Wd), GO cX7_parse RX7 8 3 sc0 rI nJ0 nV0 (KO159 x1 x2 x4 σ) 159 (mkp 0 8 [(0, .ref 1), (1, .int x1), (2, .long x2), (4, .int x4)]) [] σ) : ∀ (n : Nat), ∀ (x1 : Int32) (x2 : Int64) (x4 : Int32) (x5 : Int32) (σ : Wd), GO cX7_parse RX7 8 3 sc0 rI nJ0 nV0 (f_X7_parse_L41 N KO159 n x1 x2 x4 x5 σ) 41 (mkp 0 8 [(0, .ref 1), (1, .int x1), (2, .long x2), (4, .int x4), (5, .int x5)]) [] σ
  | 0, x1, x2, x4, x5, σ => GO.none
  | n + 1, x1, x2, x4, x5, σ => by
    exact (by refine GO.to (md_X7_parse N) (kl := [(159, fun vs st σ => kS0 st (kA 0 1 vs (kI 1 vs (fun x1 => kJ 2 vs (fun x2 => kI 4 vs (fun x4 => KO159 x1 x2 x4 σ)))))), (105, fun vs st σ => kSti st (fun y0 => kA 0 1 vs (kI 1 vs (fun x1 => kJ 2 vs (fun x2 => kI 4 vs (fun x4 => kI 5 vs (fun x5 => kI 6 vs (fun x6 => f_X7_parse_J105 N (f_X7_parse_L41 N KO159 n) KO159 x1 x2 x4 x5 x6 y0 σ))))))))]) (List.forall_mem_cons.mpr ⟨fun vs st σ => go_kS0 (go_kA (fun h0 => go_kI (fun x1 h1 => go_kJ (fun x2 h2 => go_kI (fun x4 h4 => GO.pat [(0, .ref 1), (1, .int x1), (2, .long x2), (4, .int x4)] ⟨h0, h1, h2, h4, trivial⟩ (hKO159 x1 x2 x4 σ)))))), List.forall_mem_cons.mpr ⟨fun vs st σ => go_kSti (fun y0 => go_kA (fun h0 => go_kI (fun x1 h1 => go_kJ (fun x2 h2 => go_kI (fun x4 h4 => go_kI (fun x5 h5 => go_kI (fun x6 h6 => GO.pat [(0, .ref 1), (1, .int x1), (2, .long x2), (4, .int x4), (5, .int x5), (6, .int x6)] ⟨h0, h1, h2, h4, h5, h6, trivial⟩ (g_X7_parse_J105 N (f_X7_parse_L41 N KO159 n) (g_X7_parse_L41 N KO159 hKO159 n) KO159 hKO159 x1 x2 x4 x5 x6 y0 σ)))))))), (fun _ z => absurd z List.not_mem_nil)⟩⟩) 98 ?_ ?_ <;> rfl)
theorem g_X7_parse_J159 (N : Nat) (x1 : Int32) (x2 : Int64) (x4 : Int32) (σ : Wd) : GO cX7_parse RX7 8 3 sc0 rI nJ0 nV0 (f_X7_parse_J159 N x1 x2 x4 σ) 159 (mkp 0 8 [(0, .ref 1), (1, .int x1), (2, .long x2), (4, .int x4)]) [] σ := by
  exact (by refine GO.to (md_X7_parse N) (kl := []) ((fun _ z => absurd z List.not_mem_nil)) 98 ?_ ?_ <;> rfl)
set_option maxRecDepth 20000 in
theorem C_X7_parse (N : Nat) : CTI 3 yX7_parse cX7_parse 8 (some .int) (a_X7_parse N) := by
  refine CTI.of (own := RX7) (by decide) rfl (fun as σ r h => ?_)
  unfold a_X7_parse at h
  rcases kSE_s h with ⟨r0, rfl, h0⟩ | hn
  ·
    obtain ⟨rfl, h9⟩ := kS0_s h0
    exact ⟨Nat.le_of_ble_eq_true rfl, by refine GO.to (md_X7_parse N) (kl := [(41, fun vs st σ => kS0 st (kA 0 1 vs (kI 1 vs (fun x1 => kJ 2 vs (fun x2 => kI 4 vs (fun x4 => kI 5 vs (fun x5 => f_X7_parse_L41 N (f_X7_parse_J159 N) N x1 x2 x4 x5 σ)))))))]) (List.forall_mem_cons.mpr ⟨fun vs st σ => go_kS0 (go_kA (fun h0 => go_kI (fun x1 h1 => go_kJ (fun x2 h2 => go_kI (fun x4 h4 => go_kI (fun x5 h5 => GO.pat [(0, .ref 1), (1, .int x1), (2, .long x2), (4, .int x4), (5, .int x5)] ⟨h0, h1, h2, h4, h5, trivial⟩ (g_X7_parse_L41 N (f_X7_parse_J159 N) (g_X7_parse_J159 N) N x1 x2 x4 x5 σ))))))), (fun _ z => absurd z List.not_mem_nil)⟩) 98 ?_ ?_ <;> rfl⟩
  cases hn
def ft_X3 : List (Nat × FTE) := [(9, 2, 0, 3), (15, 2, 1, 3), (19, 2, 2, 0)]
def lt_X3 : List (Nat × Int64) := []
theorem fc_X3 : ft_X3.all (fun e => fldchk RX3 e && shchk e) = true := by decide +kernel
theorem lc_X3 : lt_X3.all (ltchk RX3) = true := by decide +kernel
def T_X3_has : List (Nat × Ent) := [(0, .iload_n 1, 1, []), (1, .ifCond .lt 15, 4, [16]), (4, .iload_n 1, 5, []), (5, .aload_n 0, 6, []), (6, .getfield 19, 9, []), (9, .if_icmp .ge 7, 12, [16]), (12, .iconst 1, 13, []), (13, .goto 4, 16, [17]), (16, .iconst 0, 17, []), (17, .ireturn, 18, [])]
set_option maxRecDepth 20000 in
theorem tc_X3_has : T_X3_has.all (chk cX3_has) = true := by decide +kernel
def f_X3_has (N : Nat) (a1 : Int32) (σ : Wd) : Option (Int32 × Wd) :=
  if a1 < 0 then (some (0, σ)) else (if (σ.1 2 2) ≤ a1 then (some (0, σ)) else (some (1, σ)))
def a_X3_has (N : Nat) : List Value → Wd → Option (Int32 × Wd) := fun as σ => kSE 2 as (fun r0 => kSI r0 (fun b1 r1 => kS0 r1 (f_X3_has N b1 σ))) (none)
def ct_X3_has (N : Nat) : List (Nat × Cal) := []
set_option maxRecDepth 20000 in
theorem md_X3_has (N : Nat) : MDOK T_X3_has ft_X3 lt_X3 (ct_X3_has N) cX3_has RX3 1 := ⟨tc_X3_has, fc_X3, lc_X3, (fun _ z => absurd z List.not_mem_nil)⟩
set_option maxRecDepth 20000 in
theorem C_X3_has (N : Nat) : CTI 1 yX3_has cX3_has 2 (some .boolean) (a_X3_has N) := by
  refine CTZ.of (own := RX3) (by decide) rfl (fun as σ r h => ?_)
  unfold a_X3_has at h
  rcases kSE_s h with ⟨r0, rfl, h0⟩ | hn
  ·
    obtain ⟨b1, r1, rfl, h1⟩ := kSI_s h0
    obtain ⟨rfl, h9⟩ := kS0_s h1
    exact ⟨Nat.le_of_ble_eq_true rfl, by refine GO.to (md_X3_has N) (kl := []) ((fun _ z => absurd z List.not_mem_nil)) 15 ?_ ?_ <;> rfl⟩
  cases hn
def T_X3_numberOf : List (Nat × Ent) := [(0, .iconst 0, 1, []), (1, .istore_n 2, 2, []), (2, .iload_n 2, 3, []), (3, .aload_n 0, 4, []), (4, .getfield 19, 7, []), (7, .if_icmp .ge 21, 10, [28]), (10, .aload_n 0, 11, []), (11, .getfield 9, 14, []), (14, .iload_n 2, 15, []), (15, .iaload, 16, []), (16, .iload_n 1, 17, []), (17, .if_icmp .ne 5, 20, [22]), (20, .iload_n 2, 21, []), (21, .ireturn, 22, []), (22, .iinc 2 1, 25, []), (25, .goto (-23), 28, [2]), (28, .bipush (-2), 30, []), (30, .ireturn, 31, [])]
set_option maxRecDepth 20000 in
theorem tc_X3_numberOf : T_X3_numberOf.all (chk cX3_numberOf) = true := by decide +kernel
def f_X3_numberOf_L2 (N : Nat) (KO28 : Wd → Option (Int32 × Wd)) : Nat → Int32 → Int32 → Wd → Option (Int32 × Wd)
  | 0, _, _, _ => none
  | n + 1, x1, x2, σ => if (σ.1 2 2) ≤ x2 then (KO28 σ) else ((xld σ 15 12 x2).bind fun v1 => if v1 = x1 then (some (x2, σ)) else (f_X3_numberOf_L2 N KO28 n x1 (x2 + 1) σ))
def f_X3_numberOf_J28 (N : Nat) (σ : Wd) : Option (Int32 × Wd) :=
  some ((-2), σ)
def f_X3_numberOf (N : Nat) (a1 : Int32) (σ : Wd) : Option (Int32 × Wd) :=
  f_X3_numberOf_L2 N (f_X3_numberOf_J28 N) N a1 0 σ
def a_X3_numberOf (N : Nat) : List Value → Wd → Option (Int32 × Wd) := fun as σ => kSE 2 as (fun r0 => kSI r0 (fun b1 r1 => kS0 r1 (f_X3_numberOf N b1 σ))) (none)
def ct_X3_numberOf (N : Nat) : List (Nat × Cal) := []
set_option maxRecDepth 20000 in
theorem md_X3_numberOf (N : Nat) : MDOK T_X3_numberOf ft_X3 lt_X3 (ct_X3_numberOf N) cX3_numberOf RX3 1 := ⟨tc_X3_numberOf, fc_X3, lc_X3, (fun _ z => absurd z List.not_mem_nil)⟩
set_option maxRecDepth 20000 in
theorem g_X3_numberOf_L2 (N : Nat) (KO28 : Wd → Option (Int32 × Wd)) (hKO28 : ∀ (σ : Wd), GO cX3_numberOf RX3 3 1 sc0 rI nJ0 nV0 (KO28 σ) 28 (mkp 0 3 []) [] σ) : ∀ (n : Nat), ∀ (x1 : Int32) (x2 : Int32) (σ : Wd), GO cX3_numberOf RX3 3 1 sc0 rI nJ0 nV0 (f_X3_numberOf_L2 N KO28 n x1 x2 σ) 2 (mkp 0 3 [(0, .ref 2), (1, .int x1), (2, .int x2)]) [] σ
  | 0, x1, x2, σ => GO.none
  | n + 1, x1, x2, σ => by
    exact (by refine GO.to (md_X3_numberOf N) (kl := [(28, fun vs st σ => kS0 st (KO28 σ)), (2, fun vs st σ => kS0 st (kA 0 2 vs (kI 1 vs (fun x1 => kI 2 vs (fun x2 => f_X3_numberOf_L2 N KO28 n x1 x2 σ)))))]) (List.forall_mem_cons.mpr ⟨fun vs st σ => go_kS0 (GO.pat [] trivial (hKO28 σ)), List.forall_mem_cons.mpr ⟨fun vs st σ => go_kS0 (go_kA (fun h0 => go_kI (fun x1 h1 => go_kI (fun x2 h2 => GO.pat [(0, .ref 2), (1, .int x1), (2, .int x2)] ⟨h0, h1, h2, trivial⟩ (g_X3_numberOf_L2 N KO28 hKO28 n x1 x2 σ))))), (fun _ z => absurd z List.not_mem_nil)⟩⟩) 23 ?_ ?_ <;> rfl)
theorem g_X3_numberOf_J28 (N : Nat) (σ : Wd) : GO cX3_numberOf RX3 3 1 sc0 rI nJ0 nV0 (f_X3_numberOf_J28 N σ) 28 (mkp 0 3 []) [] σ := by
  exact (by refine GO.to (md_X3_numberOf N) (kl := []) ((fun _ z => absurd z List.not_mem_nil)) 23 ?_ ?_ <;> rfl)
set_option maxRecDepth 20000 in
theorem C_X3_numberOf (N : Nat) : CTI 1 yX3_numberOf cX3_numberOf 3 (some .int) (a_X3_numberOf N) := by
  refine CTI.of (own := RX3) (by decide) rfl (fun as σ r h => ?_)
  unfold a_X3_numberOf at h
  rcases kSE_s h with ⟨r0, rfl, h0⟩ | hn
  ·
    obtain ⟨b1, r1, rfl, h1⟩ := kSI_s h0
    obtain ⟨rfl, h9⟩ := kS0_s h1
    exact ⟨Nat.le_of_ble_eq_true rfl, by refine GO.to (md_X3_numberOf N) (kl := [(2, fun vs st σ => kS0 st (kA 0 2 vs (kI 1 vs (fun x1 => kI 2 vs (fun x2 => f_X3_numberOf_L2 N (f_X3_numberOf_J28 N) N x1 x2 σ)))))]) (List.forall_mem_cons.mpr ⟨fun vs st σ => go_kS0 (go_kA (fun h0 => go_kI (fun x1 h1 => go_kI (fun x2 h2 => GO.pat [(0, .ref 2), (1, .int x1), (2, .int x2)] ⟨h0, h1, h2, trivial⟩ (g_X3_numberOf_L2 N (f_X3_numberOf_J28 N) (g_X3_numberOf_J28 N) N x1 x2 σ))))), (fun _ z => absurd z List.not_mem_nil)⟩) 23 ?_ ?_ <;> rfl⟩
  cases hn
def T_X3_remove : List (Nat × Ent) := [(0, .aload_n 0, 1, []), (1, .dup, 2, []), (2, .getfield 19, 5, []), (5, .iconst 1, 6, []), (6, .isub, 7, []), (7, .putfield 19, 10, []), (10, .iload_n 1, 11, []), (11, .istore_n 2, 12, []), (12, .iload_n 2, 13, []), (13, .aload_n 0, 14, []), (14, .getfield 19, 17, []), (17, .if_icmp .ge 37, 20, [54]), (20, .aload_n 0, 21, []), (21, .getfield 9, 24, []), (24, .iload_n 2, 25, []), (25, .aload_n 0, 26, []), (26, .getfield 9, 29, []), (29, .iload_n 2, 30, []), (30, .iconst 1, 31, []), (31, .iadd, 32, []), (32, .iaload, 33, []), (33, .iastore, 34, []), (34, .aload_n 0, 35, []), (35, .getfield 15, 38, []), (38, .iload_n 2, 39, []), (39, .aload_n 0, 40, []), (40, .getfield 15, 43, []), (43, .iload_n 2, 44, []), (44, .iconst 1, 45, []), (45, .iadd, 46, []), (46, .laload, 47, []), (47, .lastore, 48, []), (48, .iinc 2 1, 51, []), (51, .goto (-39), 54, [12]), (54, .return_, 55, [])]
set_option maxRecDepth 20000 in
theorem tc_X3_remove : T_X3_remove.all (chk cX3_remove) = true := by decide +kernel
def f_X3_remove_L12 (N : Nat) (KO54 : Wd → Option Wd) : Nat → Int32 → Wd → Option Wd
  | 0, _, _ => none
  | n + 1, x2, σ => if (σ.1 2 2) ≤ x2 then (KO54 σ) else ((xld σ 15 12 (x2 + 1)).bind fun v2 => (xst σ 15 12 x2 v2).bind fun σ3 => (xldL σ3 16 12 (x2 + 1)).bind fun v4 => (xstL σ3 16 12 x2 v4).bind fun σ5 => f_X3_remove_L12 N KO54 n (x2 + 1) σ5)
def f_X3_remove_J54 (N : Nat) (σ : Wd) : Option Wd :=
  some σ
def f_X3_remove (N : Nat) (a1 : Int32) (σ : Wd) : Option Wd :=
  let σ1 : Wd := sF σ 2 2 ((σ.1 2 2) - 1)
  f_X3_remove_L12 N (f_X3_remove_J54 N) N a1 σ1
def a_X3_remove (N : Nat) : List Value → Wd → Option Wd := fun as σ => kSE 2 as (fun r0 => kSI r0 (fun b1 r1 => kS0 r1 (f_X3_remove N b1 σ))) (none)
def ct_X3_remove (N : Nat) : List (Nat × Cal) := []
set_option maxRecDepth 20000 in
theorem md_X3_remove (N : Nat) : MDOK T_X3_remove ft_X3 lt_X3 (ct_X3_remove N) cX3_remove RX3 1 := ⟨tc_X3_remove, fc_X3, lc_X3, (fun _ z => absurd z List.not_mem_nil)⟩
set_option maxRecDepth 20000 in
theorem g_X3_remove_L12 (N : Nat) (KO54 : Wd → Option Wd) (hKO54 : ∀ (σ : Wd), GO cX3_remove RX3 3 1 sc0 nI0 nJ0 some (KO54 σ) 54 (mkp 0 3 []) [] σ) : ∀ (n : Nat), ∀ (x2 : Int32) (σ : Wd), GO cX3_remove RX3 3 1 sc0 nI0 nJ0 some (f_X3_remove_L12 N KO54 n x2 σ) 12 (mkp 0 3 [(0, .ref 2), (2, .int x2)]) [] σ
  | 0, x2, σ => GO.none
  | n + 1, x2, σ => by
    exact (by refine GO.to (md_X3_remove N) (kl := [(54, fun vs st σ => kS0 st (KO54 σ)), (12, fun vs st σ => kS0 st (kA 0 2 vs (kI 2 vs (fun x2 => f_X3_remove_L12 N KO54 n x2 σ))))]) (List.forall_mem_cons.mpr ⟨fun vs st σ => go_kS0 (GO.pat [] trivial (hKO54 σ)), List.forall_mem_cons.mpr ⟨fun vs st σ => go_kS0 (go_kA (fun h0 => go_kI (fun x2 h2 => GO.pat [(0, .ref 2), (2, .int x2)] ⟨h0, h2, trivial⟩ (g_X3_remove_L12 N KO54 hKO54 n x2 σ)))), (fun _ z => absurd z List.not_mem_nil)⟩⟩) 40 ?_ ?_ <;> rfl)
theorem g_X3_remove_J54 (N : Nat) (σ : Wd) : GO cX3_remove RX3 3 1 sc0 nI0 nJ0 some (f_X3_remove_J54 N σ) 54 (mkp 0 3 []) [] σ := by
  exact (by refine GO.to (md_X3_remove N) (kl := []) ((fun _ z => absurd z List.not_mem_nil)) 40 ?_ ?_ <;> rfl)
set_option maxRecDepth 20000 in
theorem C_X3_remove (N : Nat) : CTV 1 yX3_remove cX3_remove 3 none (a_X3_remove N) := by
  refine CTV.of (own := RX3) (by decide) rfl (fun as σ r h => ?_)
  unfold a_X3_remove at h
  rcases kSE_s h with ⟨r0, rfl, h0⟩ | hn
  ·
    obtain ⟨b1, r1, rfl, h1⟩ := kSI_s h0
    obtain ⟨rfl, h9⟩ := kS0_s h1
    exact ⟨Nat.le_of_ble_eq_true rfl, by refine GO.to (md_X3_remove N) (kl := [(12, fun vs st σ => kS0 st (kA 0 2 vs (kI 2 vs (fun x2 => f_X3_remove_L12 N (f_X3_remove_J54 N) N x2 σ))))]) (List.forall_mem_cons.mpr ⟨fun vs st σ => go_kS0 (go_kA (fun h0 => go_kI (fun x2 h2 => GO.pat [(0, .ref 2), (2, .int x2)] ⟨h0, h2, trivial⟩ (g_X3_remove_L12 N (f_X3_remove_J54 N) (g_X3_remove_J54 N) N x2 σ)))), (fun _ z => absurd z List.not_mem_nil)⟩) 40 ?_ ?_ <;> rfl⟩
  cases hn
def T_X3_nameLength : List (Nat × Ent) := [(0, .iconst 0, 1, []), (1, .istore_n 2, 2, []), (2, .iload_n 2, 3, []), (3, .iconst 4, 4, []), (4, .if_icmp .ge 27, 7, [31]), (7, .aload_n 0, 8, []), (8, .getfield 9, 11, []), (11, .iload_n 1, 12, []), (12, .iaload, 13, []), (13, .bipush 8, 15, []), (15, .iload_n 2, 16, []), (16, .imul, 17, []), (17, .ishr, 18, []), (18, .sipush 255, 21, []), (21, .iand, 22, []), (22, .ifCond .eq 9, 25, [31]), (25, .iinc 2 1, 28, []), (28, .goto (-26), 31, [2]), (31, .iload_n 2, 32, []), (32, .ireturn, 33, [])]
set_option maxRecDepth 20000 in
theorem tc_X3_nameLength : T_X3_nameLength.all (chk cX3_nameLength) = true := by decide +kernel
def f_X3_nameLength_L2 (N : Nat) (KO31 : Int32 → Wd → Option (Int32 × Wd)) : Nat → Int32 → Int32 → Wd → Option (Int32 × Wd)
  | 0, _, _, _ => none
  | n + 1, x1, x2, σ => if 4 ≤ x2 then (KO31 x2 σ) else ((xld σ 15 12 x1).bind fun v1 => if ((v1 >>> ((8 * x2) &&& 31)) &&& 255) = 0 then (KO31 x2 σ) else (f_X3_nameLength_L2 N KO31 n x1 (x2 + 1) σ))
def f_X3_nameLength_J31 (N : Nat) (x2 : Int32) (σ : Wd) : Option (Int32 × Wd) :=
  some (x2, σ)
def f_X3_nameLength (N : Nat) (a1 : Int32) (σ : Wd) : Option (Int32 × Wd) :=
  f_X3_nameLength_L2 N (f_X3_nameLength_J31 N) N a1 0 σ
def a_X3_nameLength (N : Nat) : List Value → Wd → Option (Int32 × Wd) := fun as σ => kSE 2 as (fun r0 => kSI r0 (fun b1 r1 => kS0 r1 (f_X3_nameLength N b1 σ))) (none)
def ct_X3_nameLength (N : Nat) : List (Nat × Cal) := []
set_option maxRecDepth 20000 in
theorem md_X3_nameLength (N : Nat) : MDOK T_X3_nameLength ft_X3 lt_X3 (ct_X3_nameLength N) cX3_nameLength RX3 1 := ⟨tc_X3_nameLength, fc_X3, lc_X3, (fun _ z => absurd z List.not_mem_nil)⟩
set_option maxRecDepth 20000 in
theorem g_X3_nameLength_L2 (N : Nat) (KO31 : Int32 → Wd → Option (Int32 × Wd)) (hKO31 : ∀ (x2 : Int32) (σ : Wd), GO cX3_nameLength RX3 3 1 sc0 rI nJ0 nV0 (KO31 x2 σ) 31 (mkp 0 3 [(2, .int x2)]) [] σ) : ∀ (n : Nat), ∀ (x1 : Int32) (x2 : Int32) (σ : Wd), GO cX3_nameLength RX3 3 1 sc0 rI nJ0 nV0 (f_X3_nameLength_L2 N KO31 n x1 x2 σ) 2 (mkp 0 3 [(0, .ref 2), (1, .int x1), (2, .int x2)]) [] σ
  | 0, x1, x2, σ => GO.none
  | n + 1, x1, x2, σ => by
    exact (by refine GO.to (md_X3_nameLength N) (kl := [(31, fun vs st σ => kS0 st (kI 2 vs (fun x2 => KO31 x2 σ))), (2, fun vs st σ => kS0 st (kA 0 2 vs (kI 1 vs (fun x1 => kI 2 vs (fun x2 => f_X3_nameLength_L2 N KO31 n x1 x2 σ)))))]) (List.forall_mem_cons.mpr ⟨fun vs st σ => go_kS0 (go_kI (fun x2 h2 => GO.pat [(2, .int x2)] ⟨h2, trivial⟩ (hKO31 x2 σ))), List.forall_mem_cons.mpr ⟨fun vs st σ => go_kS0 (go_kA (fun h0 => go_kI (fun x1 h1 => go_kI (fun x2 h2 => GO.pat [(0, .ref 2), (1, .int x1), (2, .int x2)] ⟨h0, h1, h2, trivial⟩ (g_X3_nameLength_L2 N KO31 hKO31 n x1 x2 σ))))), (fun _ z => absurd z List.not_mem_nil)⟩⟩) 25 ?_ ?_ <;> rfl)
theorem g_X3_nameLength_J31 (N : Nat) (x2 : Int32) (σ : Wd) : GO cX3_nameLength RX3 3 1 sc0 rI nJ0 nV0 (f_X3_nameLength_J31 N x2 σ) 31 (mkp 0 3 [(2, .int x2)]) [] σ := by
  exact (by refine GO.to (md_X3_nameLength N) (kl := []) ((fun _ z => absurd z List.not_mem_nil)) 25 ?_ ?_ <;> rfl)
set_option maxRecDepth 20000 in
theorem C_X3_nameLength (N : Nat) : CTI 1 yX3_nameLength cX3_nameLength 3 (some .int) (a_X3_nameLength N) := by
  refine CTI.of (own := RX3) (by decide) rfl (fun as σ r h => ?_)
  unfold a_X3_nameLength at h
  rcases kSE_s h with ⟨r0, rfl, h0⟩ | hn
  ·
    obtain ⟨b1, r1, rfl, h1⟩ := kSI_s h0
    obtain ⟨rfl, h9⟩ := kS0_s h1
    exact ⟨Nat.le_of_ble_eq_true rfl, by refine GO.to (md_X3_nameLength N) (kl := [(2, fun vs st σ => kS0 st (kA 0 2 vs (kI 1 vs (fun x1 => kI 2 vs (fun x2 => f_X3_nameLength_L2 N (f_X3_nameLength_J31 N) N x1 x2 σ)))))]) (List.forall_mem_cons.mpr ⟨fun vs st σ => go_kS0 (go_kA (fun h0 => go_kI (fun x1 h1 => go_kI (fun x2 h2 => GO.pat [(0, .ref 2), (1, .int x1), (2, .int x2)] ⟨h0, h1, h2, trivial⟩ (g_X3_nameLength_L2 N (f_X3_nameLength_J31 N) (g_X3_nameLength_J31 N) N x1 x2 σ))))), (fun _ z => absurd z List.not_mem_nil)⟩) 25 ?_ ?_ <;> rfl⟩
  cases hn
def T_X3_amountWith : List (Nat × Ent) := [(0, .iconst 0, 1, []), (1, .istore_n 3, 2, []), (2, .iconst 0, 3, []), (3, .istore 4, 5, []), (5, .iload 4, 7, []), (7, .aload_n 0, 8, []), (8, .getfield 19, 11, []), (11, .if_icmp .ge 24, 14, [35]), (14, .aload_n 0, 15, []), (15, .getfield 15, 18, []), (18, .iload 4, 20, []), (20, .laload, 21, []), (21, .lload_n 1, 22, []), (22, .lcmp, 23, []), (23, .ifCond .ne 6, 26, [29]), (26, .iinc 3 1, 29, []), (29, .iinc 4 1, 32, []), (32, .goto (-27), 35, [5]), (35, .iload_n 3, 36, []), (36, .ireturn, 37, [])]
set_option maxRecDepth 20000 in
theorem tc_X3_amountWith : T_X3_amountWith.all (chk cX3_amountWith) = true := by decide +kernel
def f_X3_amountWith_L5 (N : Nat) (KO35 : Int32 → Wd → Option (Int32 × Wd)) : Nat → Int64 → Int32 → Int32 → Wd → Option (Int32 × Wd)
  | 0, _, _, _, _ => none
  | n + 1, x1, x3, x4, σ => if (σ.1 2 2) ≤ x4 then (KO35 x3 σ) else ((xldL σ 16 12 x4).bind fun v1 => if (lg_cmp v1 x1) = 0 then (f_X3_amountWith_L5 N KO35 n x1 (x3 + 1) (x4 + 1) σ) else (f_X3_amountWith_L5 N KO35 n x1 x3 (x4 + 1) σ))
def f_X3_amountWith_J35 (N : Nat) (x3 : Int32) (σ : Wd) : Option (Int32 × Wd) :=
  some (x3, σ)
def f_X3_amountWith (N : Nat) (a1 : Int64) (σ : Wd) : Option (Int32 × Wd) :=
  f_X3_amountWith_L5 N (f_X3_amountWith_J35 N) N a1 0 0 σ
def a_X3_amountWith (N : Nat) : List Value → Wd → Option (Int32 × Wd) := fun as σ => kSE 2 as (fun r0 => kSJ r0 (fun b1 r1 => kS0 r1 (f_X3_amountWith N b1 σ))) (none)
def ct_X3_amountWith (N : Nat) : List (Nat × Cal) := []
set_option maxRecDepth 20000 in
theorem md_X3_amountWith (N : Nat) : MDOK T_X3_amountWith ft_X3 lt_X3 (ct_X3_amountWith N) cX3_amountWith RX3 1 := ⟨tc_X3_amountWith, fc_X3, lc_X3, (fun _ z => absurd z List.not_mem_nil)⟩
set_option maxRecDepth 20000 in
theorem g_X3_amountWith_L5 (N : Nat) (KO35 : Int32 → Wd → Option (Int32 × Wd)) (hKO35 : ∀ (x3 : Int32) (σ : Wd), GO cX3_amountWith RX3 5 1 sc0 rI nJ0 nV0 (KO35 x3 σ) 35 (mkp 0 5 [(3, .int x3)]) [] σ) : ∀ (n : Nat), ∀ (x1 : Int64) (x3 : Int32) (x4 : Int32) (σ : Wd), GO cX3_amountWith RX3 5 1 sc0 rI nJ0 nV0 (f_X3_amountWith_L5 N KO35 n x1 x3 x4 σ) 5 (mkp 0 5 [(0, .ref 2), (1, .long x1), (3, .int x3), (4, .int x4)]) [] σ
  | 0, x1, x3, x4, σ => GO.none
  | n + 1, x1, x3, x4, σ => by
    exact (by refine GO.to (md_X3_amountWith N) (kl := [(35, fun vs st σ => kS0 st (kI 3 vs (fun x3 => KO35 x3 σ))), (5, fun vs st σ => kS0 st (kA 0 2 vs (kJ 1 vs (fun x1 => kI 3 vs (fun x3 => kI 4 vs (fun x4 => f_X3_amountWith_L5 N KO35 n x1 x3 x4 σ))))))]) (List.forall_mem_cons.mpr ⟨fun vs st σ => go_kS0 (go_kI (fun x3 h3 => GO.pat [(3, .int x3)] ⟨h3, trivial⟩ (hKO35 x3 σ))), List.forall_mem_cons.mpr ⟨fun vs st σ => go_kS0 (go_kA (fun h0 => go_kJ (fun x1 h1 => go_kI (fun x3 h3 => go_kI (fun x4 h4 => GO.pat [(0, .ref 2), (1, .long x1), (3, .int x3), (4, .int x4)] ⟨h0, h1, h3, h4, trivial⟩ (g_X3_amountWith_L5 N KO35 hKO35 n x1 x3 x4 σ)))))), (fun _ z => absurd z List.not_mem_nil)⟩⟩) 25 ?_ ?_ <;> rfl)
theorem g_X3_amountWith_J35 (N : Nat) (x3 : Int32) (σ : Wd) : GO cX3_amountWith RX3 5 1 sc0 rI nJ0 nV0 (f_X3_amountWith_J35 N x3 σ) 35 (mkp 0 5 [(3, .int x3)]) [] σ := by
  exact (by refine GO.to (md_X3_amountWith N) (kl := []) ((fun _ z => absurd z List.not_mem_nil)) 25 ?_ ?_ <;> rfl)
set_option maxRecDepth 20000 in
theorem C_X3_amountWith (N : Nat) : CTI 1 yX3_amountWith cX3_amountWith 5 (some .int) (a_X3_amountWith N) := by
  refine CTI.of (own := RX3) (by decide) rfl (fun as σ r h => ?_)
  unfold a_X3_amountWith at h
  rcases kSE_s h with ⟨r0, rfl, h0⟩ | hn
  ·
    obtain ⟨b1, r1, rfl, h1⟩ := kSJ_s h0
    obtain ⟨rfl, h9⟩ := kS0_s h1
    exact ⟨Nat.le_of_ble_eq_true rfl, by refine GO.to (md_X3_amountWith N) (kl := [(5, fun vs st σ => kS0 st (kA 0 2 vs (kJ 1 vs (fun x1 => kI 3 vs (fun x3 => kI 4 vs (fun x4 => f_X3_amountWith_L5 N (f_X3_amountWith_J35 N) N x1 x3 x4 σ))))))]) (List.forall_mem_cons.mpr ⟨fun vs st σ => go_kS0 (go_kA (fun h0 => go_kJ (fun x1 h1 => go_kI (fun x3 h3 => go_kI (fun x4 h4 => GO.pat [(0, .ref 2), (1, .long x1), (3, .int x3), (4, .int x4)] ⟨h0, h1, h3, h4, trivial⟩ (g_X3_amountWith_L5 N (f_X3_amountWith_J35 N) (g_X3_amountWith_J35 N) N x1 x3 x4 σ)))))), (fun _ z => absurd z List.not_mem_nil)⟩) 25 ?_ ?_ <;> rfl⟩
  cases hn
def T_X3_tell : List (Nat × Ent) := [(0, .aload_n 0, 1, []), (1, .iload_n 1, 2, []), (2, .invokevirtual 23, 5, []), (5, .istore 4, 7, []), (7, .iload 4, 9, []), (9, .ifCond .ge 39, 12, [48]), (12, .aload_n 0, 13, []), (13, .getfield 19, 16, []), (16, .bipush 12, 18, []), (18, .if_icmp .lt 6, 21, [24]), (21, .bipush (-3), 23, []), (23, .ireturn, 24, []), (24, .aload_n 0, 25, []), (25, .getfield 19, 28, []), (28, .istore 4, 30, []), (30, .aload_n 0, 31, []), (31, .getfield 9, 34, []), (34, .iload 4, 36, []), (36, .iload_n 1, 37, []), (37, .iastore, 38, []), (38, .aload_n 0, 39, []), (39, .dup, 40, []), (40, .getfield 19, 43, []), (43, .iconst 1, 44, []), (44, .iadd, 45, []), (45, .putfield 19, 48, []), (48, .aload_n 0, 49, []), (49, .getfield 15, 52, []), (52, .iload 4, 54, []), (54, .lload_n 2, 55, []), (55, .lastore, 56, []), (56, .iload 4, 58, []), (58, .ireturn, 59, [])]
set_option maxRecDepth 20000 in
theorem tc_X3_tell : T_X3_tell.all (chk cX3_tell) = true := by decide +kernel
def f_X3_tell (N : Nat) (a1 : Int32) (a2 : Int64) (σ : Wd) : Option (Int32 × Wd) :=
  (f_X3_numberOf N a1 σ).bind fun p1 => if 0 ≤ p1.1 then ((xstL p1.2 16 12 p1.1 a2).bind fun σ2 => some (p1.1, σ2)) else (if (p1.2.1 2 2) < 12 then ((xst p1.2 15 12 (p1.2.1 2 2) a1).bind fun σ3 => let σ4 : Wd := sF σ3 2 2 ((σ3.1 2 2) + 1)
  (xstL σ4 16 12 (p1.2.1 2 2) a2).bind fun σ5 => some (p1.2.1 2 2, σ5)) else (some ((-3), p1.2)))
def a_X3_tell (N : Nat) : List Value → Wd → Option (Int32 × Wd) := fun as σ => kSE 2 as (fun r0 => kSI r0 (fun b1 r1 => kSJ r1 (fun b2 r2 => kS0 r2 (f_X3_tell N b1 b2 σ)))) (none)
set_option maxRecDepth 20000 in
theorem k_X3_23 : calchk RX3 23 2 3 yX3_numberOf cX3_numberOf 3 (some .int) = true := by decide +kernel
def ct_X3_tell (N : Nat) : List (Nat × Cal) := [(23, 2, 3, .inl (a_X3_numberOf N))]
set_option maxRecDepth 20000 in
theorem md_X3_tell (N : Nat) : MDOK T_X3_tell ft_X3 lt_X3 (ct_X3_tell N) cX3_tell RX3 2 := ⟨tc_X3_tell, fc_X3, lc_X3, List.forall_mem_cons.mpr ⟨Or.inl ⟨yX3_numberOf, cX3_numberOf, 3, (some .int), 1, k_X3_23, Nat.le_of_ble_eq_true rfl, C_X3_numberOf N⟩, (fun _ z => absurd z List.not_mem_nil)⟩⟩
set_option maxRecDepth 20000 in
theorem C_X3_tell (N : Nat) : CTI 2 yX3_tell cX3_tell 5 (some .int) (a_X3_tell N) := by
  refine CTI.of (own := RX3) (by decide) rfl (fun as σ r h => ?_)
  unfold a_X3_tell at h
  rcases kSE_s h with ⟨r0, rfl, h0⟩ | hn
  ·
    obtain ⟨b1, r1, rfl, h1⟩ := kSI_s h0
    obtain ⟨b2, r2, rfl, h2⟩ := kSJ_s h1
    obtain ⟨rfl, h9⟩ := kS0_s h2
    exact ⟨Nat.le_of_ble_eq_true rfl, by refine GO.to (md_X3_tell N) (kl := []) ((fun _ z => absurd z List.not_mem_nil)) 38 ?_ ?_ <;> rfl⟩
  cases hn
def T_X3_amountOfBlocks : List (Nat × Ent) := [(0, .iconst 0, 1, []), (1, .istore_n 1, 2, []), (2, .iconst 0, 3, []), (3, .istore_n 2, 4, []), (4, .iload_n 2, 5, []), (5, .aload_n 0, 6, []), (6, .getfield 19, 9, []), (9, .if_icmp .ge 21, 12, [30]), (12, .iload_n 1, 13, []), (13, .aload_n 0, 14, []), (14, .getfield 15, 17, []), (17, .iload_n 2, 18, []), (18, .laload, 19, []), (19, .invokestatic 29, 22, []), (22, .iadd, 23, []), (23, .istore_n 1, 24, []), (24, .iinc 2 1, 27, []), (27, .goto (-23), 30, [4]), (30, .iload_n 1, 31, []), (31, .ireturn, 32, [])]
set_option maxRecDepth 20000 in
theorem tc_X3_amountOfBlocks : T_X3_amountOfBlocks.all (chk cX3_amountOfBlocks) = true := by decide +kernel
def f_X3_amountOfBlocks_L4 (N : Nat) (KO30 : Int32 → Wd → Option (Int32 × Wd)) : Nat → Int32 → Int32 → Wd → Option (Int32 × Wd)
  | 0, _, _, _ => none
  | n + 1, x1, x2, σ => if (σ.1 2 2) ≤ x2 then (KO30 x1 σ) else ((xldL σ 16 12 x2).bind fun v1 => (f_X0_amount N v1 σ).bind fun p2 => f_X3_amountOfBlocks_L4 N KO30 n (x1 + p2.1) (x2 + 1) p2.2)
def f_X3_amountOfBlocks_J30 (N : Nat) (x1 : Int32) (σ : Wd) : Option (Int32 × Wd) :=
  some (x1, σ)
def f_X3_amountOfBlocks (N : Nat) (σ : Wd) : Option (Int32 × Wd) :=
  f_X3_amountOfBlocks_L4 N (f_X3_amountOfBlocks_J30 N) N 0 0 σ
def a_X3_amountOfBlocks (N : Nat) : List Value → Wd → Option (Int32 × Wd) := fun as σ => kSE 2 as (fun r0 => kS0 r0 (f_X3_amountOfBlocks N σ)) (none)
set_option maxRecDepth 20000 in
theorem k_X3_29 : calchk RX3 29 1 0 yX0_amount cX0_amount 3 (some .int) = true := by decide +kernel
def ct_X3_amountOfBlocks (N : Nat) : List (Nat × Cal) := [(29, 1, 0, .inl (a_X0_amount N))]
set_option maxRecDepth 20000 in
theorem md_X3_amountOfBlocks (N : Nat) : MDOK T_X3_amountOfBlocks ft_X3 lt_X3 (ct_X3_amountOfBlocks N) cX3_amountOfBlocks RX3 3 := ⟨tc_X3_amountOfBlocks, fc_X3, lc_X3, List.forall_mem_cons.mpr ⟨Or.inl ⟨yX0_amount, cX0_amount, 3, (some .int), 2, k_X3_29, Nat.le_of_ble_eq_true rfl, C_X0_amount N⟩, (fun _ z => absurd z List.not_mem_nil)⟩⟩
set_option maxRecDepth 20000 in
theorem g_X3_amountOfBlocks_L4 (N : Nat) (KO30 : Int32 → Wd → Option (Int32 × Wd)) (hKO30 : ∀ (x1 : Int32) (σ : Wd), GO cX3_amountOfBlocks RX3 3 3 sc0 rI nJ0 nV0 (KO30 x1 σ) 30 (mkp 0 3 [(1, .int x1)]) [] σ) : ∀ (n : Nat), ∀ (x1 : Int32) (x2 : Int32) (σ : Wd), GO cX3_amountOfBlocks RX3 3 3 sc0 rI nJ0 nV0 (f_X3_amountOfBlocks_L4 N KO30 n x1 x2 σ) 4 (mkp 0 3 [(0, .ref 2), (1, .int x1), (2, .int x2)]) [] σ
  | 0, x1, x2, σ => GO.none
  | n + 1, x1, x2, σ => by
    exact (by refine GO.to (md_X3_amountOfBlocks N) (kl := [(30, fun vs st σ => kS0 st (kI 1 vs (fun x1 => KO30 x1 σ))), (4, fun vs st σ => kS0 st (kA 0 2 vs (kI 1 vs (fun x1 => kI 2 vs (fun x2 => f_X3_amountOfBlocks_L4 N KO30 n x1 x2 σ)))))]) (List.forall_mem_cons.mpr ⟨fun vs st σ => go_kS0 (go_kI (fun x1 h1 => GO.pat [(1, .int x1)] ⟨h1, trivial⟩ (hKO30 x1 σ))), List.forall_mem_cons.mpr ⟨fun vs st σ => go_kS0 (go_kA (fun h0 => go_kI (fun x1 h1 => go_kI (fun x2 h2 => GO.pat [(0, .ref 2), (1, .int x1), (2, .int x2)] ⟨h0, h1, h2, trivial⟩ (g_X3_amountOfBlocks_L4 N KO30 hKO30 n x1 x2 σ))))), (fun _ z => absurd z List.not_mem_nil)⟩⟩) 25 ?_ ?_ <;> rfl)
theorem g_X3_amountOfBlocks_J30 (N : Nat) (x1 : Int32) (σ : Wd) : GO cX3_amountOfBlocks RX3 3 3 sc0 rI nJ0 nV0 (f_X3_amountOfBlocks_J30 N x1 σ) 30 (mkp 0 3 [(1, .int x1)]) [] σ := by
  exact (by refine GO.to (md_X3_amountOfBlocks N) (kl := []) ((fun _ z => absurd z List.not_mem_nil)) 25 ?_ ?_ <;> rfl)
set_option maxRecDepth 20000 in
theorem C_X3_amountOfBlocks (N : Nat) : CTI 3 yX3_amountOfBlocks cX3_amountOfBlocks 3 (some .int) (a_X3_amountOfBlocks N) := by
  refine CTI.of (own := RX3) (by decide) rfl (fun as σ r h => ?_)
  unfold a_X3_amountOfBlocks at h
  rcases kSE_s h with ⟨r0, rfl, h0⟩ | hn
  ·
    obtain ⟨rfl, h9⟩ := kS0_s h0
    exact ⟨Nat.le_of_ble_eq_true rfl, by refine GO.to (md_X3_amountOfBlocks N) (kl := [(4, fun vs st σ => kS0 st (kA 0 2 vs (kI 1 vs (fun x1 => kI 2 vs (fun x2 => f_X3_amountOfBlocks_L4 N (f_X3_amountOfBlocks_J30 N) N x1 x2 σ)))))]) (List.forall_mem_cons.mpr ⟨fun vs st σ => go_kS0 (go_kA (fun h0 => go_kI (fun x1 h1 => go_kI (fun x2 h2 => GO.pat [(0, .ref 2), (1, .int x1), (2, .int x2)] ⟨h0, h1, h2, trivial⟩ (g_X3_amountOfBlocks_L4 N (f_X3_amountOfBlocks_J30 N) (g_X3_amountOfBlocks_J30 N) N x1 x2 σ))))), (fun _ z => absurd z List.not_mem_nil)⟩) 25 ?_ ?_ <;> rfl⟩
  cases hn
def T_X3_unlikeBlocks : List (Nat × Ent) := [(0, .lconst 0, 1, []), (1, .lstore_n 1, 2, []), (2, .iconst 0, 3, []), (3, .istore_n 3, 4, []), (4, .iload_n 3, 5, []), (5, .aload_n 0, 6, []), (6, .getfield 19, 9, []), (9, .if_icmp .ge 52, 12, [61]), (12, .aload_n 0, 13, []), (13, .getfield 15, 16, []), (16, .iload_n 3, 17, []), (17, .laload, 18, []), (18, .invokestatic 29, 21, []), (21, .istore 4, 23, []), (23, .iconst 0, 24, []), (24, .istore 5, 26, []), (26, .iload 5, 28, []), (28, .iload 4, 30, []), (30, .if_icmp .ge 25, 33, [55]), (33, .lload_n 1, 34, []), (34, .lconst 1, 35, []), (35, .aload_n 0, 36, []), (36, .getfield 15, 39, []), (39, .iload_n 3, 40, []), (40, .laload, 41, []), (41, .iload 5, 43, []), (43, .invokestatic 34, 46, []), (46, .lshl, 47, []), (47, .lor, 48, []), (48, .lstore_n 1, 49, []), (49, .iinc 5 1, 52, []), (52, .goto (-26), 55, [26]), (55, .iinc 3 1, 58, []), (58, .goto (-54), 61, [4]), (61, .lload_n 1, 62, []), (62, .invokestatic 38, 65, []), (65, .ireturn, 66, [])]
set_option maxRecDepth 20000 in
theorem tc_X3_unlikeBlocks : T_X3_unlikeBlocks.all (chk cX3_unlikeBlocks) = true := by decide +kernel
def f_X3_unlikeBlocks_L26 (N : Nat) (KO55 : Int64 → Int32 → Wd → Option (Int32 × Wd)) : Nat → Int64 → Int32 → Int32 → Int32 → Wd → Option (Int32 × Wd)
  | 0, _, _, _, _, _ => none
  | n + 1, x1, x3, x4, x5, σ => if x4 ≤ x5 then (KO55 x1 x3 σ) else ((xldL σ 16 12 x3).bind fun v3 => (f_X0_codeAt N v3 x5 σ).bind fun p4 => f_X3_unlikeBlocks_L26 N KO55 n (x1 ||| (1 <<< (Int32.toInt64 p4.1 &&& 63))) x3 x4 (x5 + 1) p4.2)
def f_X3_unlikeBlocks_J55 (N : Nat) (KB : Int64 → Int32 → Wd → Option (Int32 × Wd)) (KO61 : Int64 → Wd → Option (Int32 × Wd)) (x1 : Int64) (x3 : Int32) (σ : Wd) : Option (Int32 × Wd) :=
  KB x1 (x3 + 1) σ
def f_X3_unlikeBlocks_L4 (N : Nat) (KO61 : Int64 → Wd → Option (Int32 × Wd)) : Nat → Int64 → Int32 → Wd → Option (Int32 × Wd)
  | 0, _, _, _ => none
  | n + 1, x1, x3, σ => if (σ.1 2 2) ≤ x3 then (KO61 x1 σ) else ((xldL σ 16 12 x3).bind fun v1 => (f_X0_amount N v1 σ).bind fun p2 => f_X3_unlikeBlocks_L26 N (f_X3_unlikeBlocks_J55 N (f_X3_unlikeBlocks_L4 N KO61 n) KO61) N x1 x3 p2.1 0 p2.2)
def f_X3_unlikeBlocks_J61 (N : Nat) (x1 : Int64) (σ : Wd) : Option (Int32 × Wd) :=
  (f_J13_bitCount_95d88 N x1 σ).bind fun p5 => some (p5.1, p5.2)
def f_X3_unlikeBlocks (N : Nat) (σ : Wd) : Option (Int32 × Wd) :=
  f_X3_unlikeBlocks_L4 N (f_X3_unlikeBlocks_J61 N) N 0 0 σ
def a_X3_unlikeBlocks (N : Nat) : List Value → Wd → Option (Int32 × Wd) := fun as σ => kSE 2 as (fun r0 => kS0 r0 (f_X3_unlikeBlocks N σ)) (none)
set_option maxRecDepth 20000 in
theorem k_X3_34 : calchk RX3 34 2 0 yX0_codeAt cX0_codeAt 3 (some .int) = true := by decide +kernel
set_option maxRecDepth 20000 in
theorem k_X3_38 : calchk RX3 38 1 0 yJ13_bitCount_95d88 cJ13_bitCount_95d88 2 (some .int) = true := by decide +kernel
def ct_X3_unlikeBlocks (N : Nat) : List (Nat × Cal) := [(29, 1, 0, .inl (a_X0_amount N)), (34, 2, 0, .inl (a_X0_codeAt N)), (38, 1, 0, .inl (a_J13_bitCount_95d88 N))]
set_option maxRecDepth 20000 in
theorem md_X3_unlikeBlocks (N : Nat) : MDOK T_X3_unlikeBlocks ft_X3 lt_X3 (ct_X3_unlikeBlocks N) cX3_unlikeBlocks RX3 3 := ⟨tc_X3_unlikeBlocks, fc_X3, lc_X3, List.forall_mem_cons.mpr ⟨Or.inl ⟨yX0_amount, cX0_amount, 3, (some .int), 2, k_X3_29, Nat.le_of_ble_eq_true rfl, C_X0_amount N⟩, List.forall_mem_cons.mpr ⟨Or.inl ⟨yX0_codeAt, cX0_codeAt, 3, (some .int), 1, k_X3_34, Nat.le_of_ble_eq_true rfl, C_X0_codeAt N⟩, List.forall_mem_cons.mpr ⟨Or.inl ⟨yJ13_bitCount_95d88, cJ13_bitCount_95d88, 2, (some .int), 1, k_X3_38, Nat.le_of_ble_eq_true rfl, C_J13_bitCount_95d88 N⟩, (fun _ z => absurd z List.not_mem_nil)⟩⟩⟩⟩
set_option maxRecDepth 20000 in
theorem g_X3_unlikeBlocks_L26 (N : Nat) (KO55 : Int64 → Int32 → Wd → Option (Int32 × Wd)) (hKO55 : ∀ (x1 : Int64) (x3 : Int32) (σ : Wd), GO cX3_unlikeBlocks RX3 6 3 sc0 rI nJ0 nV0 (KO55 x1 x3 σ) 55 (mkp 0 6 [(0, .ref 2), (1, .long x1), (3, .int x3)]) [] σ) : ∀ (n : Nat), ∀ (x1 : Int64) (x3 : Int32) (x4 : Int32) (x5 : Int32) (σ : Wd), GO cX3_unlikeBlocks RX3 6 3 sc0 rI nJ0 nV0 (f_X3_unlikeBlocks_L26 N KO55 n x1 x3 x4 x5 σ) 26 (mkp 0 6 [(0, .ref 2), (1, .long x1), (3, .int x3), (4, .int x4), (5, .int x5)]) [] σ
  | 0, x1, x3, x4, x5, σ => GO.none
  | n + 1, x1, x3, x4, x5, σ => by
    exact (by refine GO.to (md_X3_unlikeBlocks N) (kl := [(55, fun vs st σ => kS0 st (kA 0 2 vs (kJ 1 vs (fun x1 => kI 3 vs (fun x3 => KO55 x1 x3 σ))))), (26, fun vs st σ => kS0 st (kA 0 2 vs (kJ 1 vs (fun x1 => kI 3 vs (fun x3 => kI 4 vs (fun x4 => kI 5 vs (fun x5 => f_X3_unlikeBlocks_L26 N KO55 n x1 x3 x4 x5 σ)))))))]) (List.forall_mem_cons.mpr ⟨fun vs st σ => go_kS0 (go_kA (fun h0 => go_kJ (fun x1 h1 => go_kI (fun x3 h3 => GO.pat [(0, .ref 2), (1, .long x1), (3, .int x3)] ⟨h0, h1, h3, trivial⟩ (hKO55 x1 x3 σ))))), List.forall_mem_cons.mpr ⟨fun vs st σ => go_kS0 (go_kA (fun h0 => go_kJ (fun x1 h1 => go_kI (fun x3 h3 => go_kI (fun x4 h4 => go_kI (fun x5 h5 => GO.pat [(0, .ref 2), (1, .long x1), (3, .int x3), (4, .int x4), (5, .int x5)] ⟨h0, h1, h3, h4, h5, trivial⟩ (g_X3_unlikeBlocks_L26 N KO55 hKO55 n x1 x3 x4 x5 σ))))))), (fun _ z => absurd z List.not_mem_nil)⟩⟩) 42 ?_ ?_ <;> rfl)
theorem g_X3_unlikeBlocks_J55 (N : Nat) (KB : Int64 → Int32 → Wd → Option (Int32 × Wd)) (hKB : ∀ (x1 : Int64) (x3 : Int32) (σ : Wd), GO cX3_unlikeBlocks RX3 6 3 sc0 rI nJ0 nV0 (KB x1 x3 σ) 4 (mkp 0 6 [(0, .ref 2), (1, .long x1), (3, .int x3)]) [] σ) (KO61 : Int64 → Wd → Option (Int32 × Wd)) (hKO61 : ∀ (x1 : Int64) (σ : Wd), GO cX3_unlikeBlocks RX3 6 3 sc0 rI nJ0 nV0 (KO61 x1 σ) 61 (mkp 0 6 [(1, .long x1)]) [] σ) (x1 : Int64) (x3 : Int32) (σ : Wd) : GO cX3_unlikeBlocks RX3 6 3 sc0 rI nJ0 nV0 (f_X3_unlikeBlocks_J55 N KB KO61 x1 x3 σ) 55 (mkp 0 6 [(0, .ref 2), (1, .long x1), (3, .int x3)]) [] σ := by
  exact (by refine GO.to (md_X3_unlikeBlocks N) (kl := [(4, fun vs st σ => kS0 st (kA 0 2 vs (kJ 1 vs (fun x1 => kI 3 vs (fun x3 => KB x1 x3 σ)))))]) (List.forall_mem_cons.mpr ⟨fun vs st σ => go_kS0 (go_kA (fun h0 => go_kJ (fun x1 h1 => go_kI (fun x3 h3 => GO.pat [(0, .ref 2), (1, .long x1), (3, .int x3)] ⟨h0, h1, h3, trivial⟩ (hKB x1 x3 σ))))), (fun _ z => absurd z List.not_mem_nil)⟩) 42 ?_ ?_ <;> rfl)
set_option maxRecDepth 20000 in
theorem g_X3_unlikeBlocks_L4 (N : Nat) (KO61 : Int64 → Wd → Option (Int32 × Wd)) (hKO61 : ∀ (x1 : Int64) (σ : Wd), GO cX3_unlikeBlocks RX3 6 3 sc0 rI nJ0 nV0 (KO61 x1 σ) 61 (mkp 0 6 [(1, .long x1)]) [] σ) : ∀ (n : Nat), ∀ (x1 : Int64) (x3 : Int32) (σ : Wd), GO cX3_unlikeBlocks RX3 6 3 sc0 rI nJ0 nV0 (f_X3_unlikeBlocks_L4 N KO61 n x1 x3 σ) 4 (mkp 0 6 [(0, .ref 2), (1, .long x1), (3, .int x3)]) [] σ
  | 0, x1, x3, σ => GO.none
  | n + 1, x1, x3, σ => by
    exact (by refine GO.to (md_X3_unlikeBlocks N) (kl := [(61, fun vs st σ => kS0 st (kJ 1 vs (fun x1 => KO61 x1 σ))), (26, fun vs st σ => kS0 st (kA 0 2 vs (kJ 1 vs (fun x1 => kI 3 vs (fun x3 => kI 4 vs (fun x4 => kI 5 vs (fun x5 => f_X3_unlikeBlocks_L26 N (f_X3_unlikeBlocks_J55 N (f_X3_unlikeBlocks_L4 N KO61 n) KO61) N x1 x3 x4 x5 σ)))))))]) (List.forall_mem_cons.mpr ⟨fun vs st σ => go_kS0 (go_kJ (fun x1 h1 => GO.pat [(1, .long x1)] ⟨h1, trivial⟩ (hKO61 x1 σ))), List.forall_mem_cons.mpr ⟨fun vs st σ => go_kS0 (go_kA (fun h0 => go_kJ (fun x1 h1 => go_kI (fun x3 h3 => go_kI (fun x4 h4 => go_kI (fun x5 h5 => GO.pat [(0, .ref 2), (1, .long x1), (3, .int x3), (4, .int x4), (5, .int x5)] ⟨h0, h1, h3, h4, h5, trivial⟩ (g_X3_unlikeBlocks_L26 N (f_X3_unlikeBlocks_J55 N (f_X3_unlikeBlocks_L4 N KO61 n) KO61) (g_X3_unlikeBlocks_J55 N (f_X3_unlikeBlocks_L4 N KO61 n) (g_X3_unlikeBlocks_L4 N KO61 hKO61 n) KO61 hKO61) N x1 x3 x4 x5 σ))))))), (fun _ z => absurd z List.not_mem_nil)⟩⟩) 42 ?_ ?_ <;> rfl)
theorem g_X3_unlikeBlocks_J61 (N : Nat) (x1 : Int64) (σ : Wd) : GO cX3_unlikeBlocks RX3 6 3 sc0 rI nJ0 nV0 (f_X3_unlikeBlocks_J61 N x1 σ) 61 (mkp 0 6 [(1, .long x1)]) [] σ := by
  exact (by refine GO.to (md_X3_unlikeBlocks N) (kl := []) ((fun _ z => absurd z List.not_mem_nil)) 42 ?_ ?_ <;> rfl)
set_option maxRecDepth 20000 in
theorem C_X3_unlikeBlocks (N : Nat) : CTI 3 yX3_unlikeBlocks cX3_unlikeBlocks 6 (some .int) (a_X3_unlikeBlocks N) := by
  refine CTI.of (own := RX3) (by decide) rfl (fun as σ r h => ?_)
  unfold a_X3_unlikeBlocks at h
  rcases kSE_s h with ⟨r0, rfl, h0⟩ | hn
  ·
    obtain ⟨rfl, h9⟩ := kS0_s h0
    exact ⟨Nat.le_of_ble_eq_true rfl, by refine GO.to (md_X3_unlikeBlocks N) (kl := [(4, fun vs st σ => kS0 st (kA 0 2 vs (kJ 1 vs (fun x1 => kI 3 vs (fun x3 => f_X3_unlikeBlocks_L4 N (f_X3_unlikeBlocks_J61 N) N x1 x3 σ)))))]) (List.forall_mem_cons.mpr ⟨fun vs st σ => go_kS0 (go_kA (fun h0 => go_kJ (fun x1 h1 => go_kI (fun x3 h3 => GO.pat [(0, .ref 2), (1, .long x1), (3, .int x3)] ⟨h0, h1, h3, trivial⟩ (g_X3_unlikeBlocks_L4 N (f_X3_unlikeBlocks_J61 N) (g_X3_unlikeBlocks_J61 N) N x1 x3 σ))))), (fun _ z => absurd z List.not_mem_nil)⟩) 42 ?_ ?_ <;> rfl⟩
  cases hn
def ft_X1 : List (Nat × FTE) := [(9, 0, 0, 3), (17, 0, 1, 0)]
def lt_X1 : List (Nat × Int64) := []
theorem fc_X1 : ft_X1.all (fun e => fldchk RX1 e && shchk e) = true := by decide +kernel
theorem lc_X1 : lt_X1.all (ltchk RX1) = true := by decide +kernel
def T_X1_placeOf : List (Nat × Ent) := [(0, .iconst 0, 1, []), (1, .istore_n 3, 2, []), (2, .iload_n 3, 3, []), (3, .aload_n 0, 4, []), (4, .getfield 17, 7, []), (7, .if_icmp .ge 20, 10, [27]), (10, .aload_n 0, 11, []), (11, .getfield 9, 14, []), (14, .iload_n 3, 15, []), (15, .laload, 16, []), (16, .lload_n 1, 17, []), (17, .lcmp, 18, []), (18, .ifCond .eq 9, 21, [27]), (21, .iinc 3 1, 24, []), (24, .goto (-22), 27, [2]), (27, .iload_n 3, 28, []), (28, .ireturn, 29, [])]
set_option maxRecDepth 20000 in
theorem tc_X1_placeOf : T_X1_placeOf.all (chk cX1_placeOf) = true := by decide +kernel
def f_X1_placeOf_L2 (N : Nat) (KO27 : Int32 → Wd → Option (Int32 × Wd)) : Nat → Int64 → Int32 → Wd → Option (Int32 × Wd)
  | 0, _, _, _ => none
  | n + 1, x1, x3, σ => if (σ.1 3 1) ≤ x3 then (KO27 x3 σ) else ((xldL σ 17 20 x3).bind fun v1 => if (lg_cmp v1 x1) = 0 then (KO27 x3 σ) else (f_X1_placeOf_L2 N KO27 n x1 (x3 + 1) σ))
def f_X1_placeOf_J27 (N : Nat) (x3 : Int32) (σ : Wd) : Option (Int32 × Wd) :=
  some (x3, σ)
def f_X1_placeOf (N : Nat) (a1 : Int64) (σ : Wd) : Option (Int32 × Wd) :=
  f_X1_placeOf_L2 N (f_X1_placeOf_J27 N) N a1 0 σ
def a_X1_placeOf (N : Nat) : List Value → Wd → Option (Int32 × Wd) := fun as σ => kSE 3 as (fun r0 => kSJ r0 (fun b1 r1 => kS0 r1 (f_X1_placeOf N b1 σ))) (none)
def ct_X1_placeOf (N : Nat) : List (Nat × Cal) := []
set_option maxRecDepth 20000 in
theorem md_X1_placeOf (N : Nat) : MDOK T_X1_placeOf ft_X1 lt_X1 (ct_X1_placeOf N) cX1_placeOf RX1 1 := ⟨tc_X1_placeOf, fc_X1, lc_X1, (fun _ z => absurd z List.not_mem_nil)⟩
set_option maxRecDepth 20000 in
theorem g_X1_placeOf_L2 (N : Nat) (KO27 : Int32 → Wd → Option (Int32 × Wd)) (hKO27 : ∀ (x3 : Int32) (σ : Wd), GO cX1_placeOf RX1 4 1 sc0 rI nJ0 nV0 (KO27 x3 σ) 27 (mkp 0 4 [(3, .int x3)]) [] σ) : ∀ (n : Nat), ∀ (x1 : Int64) (x3 : Int32) (σ : Wd), GO cX1_placeOf RX1 4 1 sc0 rI nJ0 nV0 (f_X1_placeOf_L2 N KO27 n x1 x3 σ) 2 (mkp 0 4 [(0, .ref 3), (1, .long x1), (3, .int x3)]) [] σ
  | 0, x1, x3, σ => GO.none
  | n + 1, x1, x3, σ => by
    exact (by refine GO.to (md_X1_placeOf N) (kl := [(27, fun vs st σ => kS0 st (kI 3 vs (fun x3 => KO27 x3 σ))), (2, fun vs st σ => kS0 st (kA 0 3 vs (kJ 1 vs (fun x1 => kI 3 vs (fun x3 => f_X1_placeOf_L2 N KO27 n x1 x3 σ)))))]) (List.forall_mem_cons.mpr ⟨fun vs st σ => go_kS0 (go_kI (fun x3 h3 => GO.pat [(3, .int x3)] ⟨h3, trivial⟩ (hKO27 x3 σ))), List.forall_mem_cons.mpr ⟨fun vs st σ => go_kS0 (go_kA (fun h0 => go_kJ (fun x1 h1 => go_kI (fun x3 h3 => GO.pat [(0, .ref 3), (1, .long x1), (3, .int x3)] ⟨h0, h1, h3, trivial⟩ (g_X1_placeOf_L2 N KO27 hKO27 n x1 x3 σ))))), (fun _ z => absurd z List.not_mem_nil)⟩⟩) 22 ?_ ?_ <;> rfl)
theorem g_X1_placeOf_J27 (N : Nat) (x3 : Int32) (σ : Wd) : GO cX1_placeOf RX1 4 1 sc0 rI nJ0 nV0 (f_X1_placeOf_J27 N x3 σ) 27 (mkp 0 4 [(3, .int x3)]) [] σ := by
  exact (by refine GO.to (md_X1_placeOf N) (kl := []) ((fun _ z => absurd z List.not_mem_nil)) 22 ?_ ?_ <;> rfl)
set_option maxRecDepth 20000 in
theorem C_X1_placeOf (N : Nat) : CTI 1 yX1_placeOf cX1_placeOf 4 (some .int) (a_X1_placeOf N) := by
  refine CTI.of (own := RX1) (by decide) rfl (fun as σ r h => ?_)
  unfold a_X1_placeOf at h
  rcases kSE_s h with ⟨r0, rfl, h0⟩ | hn
  ·
    obtain ⟨b1, r1, rfl, h1⟩ := kSJ_s h0
    obtain ⟨rfl, h9⟩ := kS0_s h1
    exact ⟨Nat.le_of_ble_eq_true rfl, by refine GO.to (md_X1_placeOf N) (kl := [(2, fun vs st σ => kS0 st (kA 0 3 vs (kJ 1 vs (fun x1 => kI 3 vs (fun x3 => f_X1_placeOf_L2 N (f_X1_placeOf_J27 N) N x1 x3 σ)))))]) (List.forall_mem_cons.mpr ⟨fun vs st σ => go_kS0 (go_kA (fun h0 => go_kJ (fun x1 h1 => go_kI (fun x3 h3 => GO.pat [(0, .ref 3), (1, .long x1), (3, .int x3)] ⟨h0, h1, h3, trivial⟩ (g_X1_placeOf_L2 N (f_X1_placeOf_J27 N) (g_X1_placeOf_J27 N) N x1 x3 σ))))), (fun _ z => absurd z List.not_mem_nil)⟩) 22 ?_ ?_ <;> rfl⟩
  cases hn
def T_X1_holds : List (Nat × Ent) := [(0, .aload_n 0, 1, []), (1, .lload_n 1, 2, []), (2, .invokevirtual 13, 5, []), (5, .aload_n 0, 6, []), (6, .getfield 17, 9, []), (9, .if_icmp .ge 7, 12, [16]), (12, .iconst 1, 13, []), (13, .goto 4, 16, [17]), (16, .iconst 0, 17, []), (17, .ireturn, 18, [])]
set_option maxRecDepth 20000 in
theorem tc_X1_holds : T_X1_holds.all (chk cX1_holds) = true := by decide +kernel
def f_X1_holds (N : Nat) (a1 : Int64) (σ : Wd) : Option (Int32 × Wd) :=
  (f_X1_placeOf N a1 σ).bind fun p1 => if (p1.2.1 3 1) ≤ p1.1 then (some (0, p1.2)) else (some (1, p1.2))
def a_X1_holds (N : Nat) : List Value → Wd → Option (Int32 × Wd) := fun as σ => kSE 3 as (fun r0 => kSJ r0 (fun b1 r1 => kS0 r1 (f_X1_holds N b1 σ))) (none)
set_option maxRecDepth 20000 in
theorem k_X1_13 : calchk RX1 13 2 1 yX1_placeOf cX1_placeOf 4 (some .int) = true := by decide +kernel
def ct_X1_holds (N : Nat) : List (Nat × Cal) := [(13, 2, 1, .inl (a_X1_placeOf N))]
set_option maxRecDepth 20000 in
theorem md_X1_holds (N : Nat) : MDOK T_X1_holds ft_X1 lt_X1 (ct_X1_holds N) cX1_holds RX1 2 := ⟨tc_X1_holds, fc_X1, lc_X1, List.forall_mem_cons.mpr ⟨Or.inl ⟨yX1_placeOf, cX1_placeOf, 4, (some .int), 1, k_X1_13, Nat.le_of_ble_eq_true rfl, C_X1_placeOf N⟩, (fun _ z => absurd z List.not_mem_nil)⟩⟩
set_option maxRecDepth 20000 in
theorem C_X1_holds (N : Nat) : CTI 2 yX1_holds cX1_holds 3 (some .boolean) (a_X1_holds N) := by
  refine CTZ.of (own := RX1) (by decide) rfl (fun as σ r h => ?_)
  unfold a_X1_holds at h
  rcases kSE_s h with ⟨r0, rfl, h0⟩ | hn
  ·
    obtain ⟨b1, r1, rfl, h1⟩ := kSJ_s h0
    obtain ⟨rfl, h9⟩ := kS0_s h1
    exact ⟨Nat.le_of_ble_eq_true rfl, by refine GO.to (md_X1_holds N) (kl := []) ((fun _ z => absurd z List.not_mem_nil)) 15 ?_ ?_ <;> rfl⟩
  cases hn
def T_X1_ask : List (Nat × Ent) := [(0, .aload_n 0, 1, []), (1, .lload_n 1, 2, []), (2, .invokevirtual 13, 5, []), (5, .istore_n 3, 6, []), (6, .iload_n 3, 7, []), (7, .aload_n 0, 8, []), (8, .getfield 17, 11, []), (11, .if_icmp .ne 25, 14, [36]), (14, .aload_n 0, 15, []), (15, .getfield 17, 18, []), (18, .bipush 20, 20, []), (20, .if_icmp .ge 16, 23, [36]), (23, .aload_n 0, 24, []), (24, .dup, 25, []), (25, .getfield 17, 28, []), (28, .iconst 1, 29, []), (29, .iadd, 30, []), (30, .putfield 17, 33, []), (33, .goto 13, 36, [46]), (36, .iload_n 3, 37, []), (37, .aload_n 0, 38, []), (38, .getfield 17, 41, []), (41, .if_icmp .ne 5, 44, [46]), (44, .iconst 0, 45, []), (45, .istore_n 3, 46, []), (46, .iload_n 3, 47, []), (47, .istore 4, 49, []), (49, .iload 4, 51, []), (51, .aload_n 0, 52, []), (52, .getfield 17, 55, []), (55, .iconst 1, 56, []), (56, .isub, 57, []), (57, .if_icmp .ge 25, 60, [82]), (60, .aload_n 0, 61, []), (61, .getfield 9, 64, []), (64, .iload 4, 66, []), (66, .aload_n 0, 67, []), (67, .getfield 9, 70, []), (70, .iload 4, 72, []), (72, .iconst 1, 73, []), (73, .iadd, 74, []), (74, .laload, 75, []), (75, .lastore, 76, []), (76, .iinc 4 1, 79, []), (79, .goto (-30), 82, [49]), (82, .aload_n 0, 83, []), (83, .getfield 9, 86, []), (86, .aload_n 0, 87, []), (87, .getfield 17, 90, []), (90, .iconst 1, 91, []), (91, .isub, 92, []), (92, .lload_n 1, 93, []), (93, .lastore, 94, []), (94, .return_, 95, [])]
set_option maxRecDepth 20000 in
theorem tc_X1_ask : T_X1_ask.all (chk cX1_ask) = true := by decide +kernel
def f_X1_ask_L49 (N : Nat) (KO82 : Int64 → Wd → Option Wd) : Nat → Int64 → Int32 → Wd → Option Wd
  | 0, _, _, _ => none
  | n + 1, x1, x4, σ => if ((σ.1 3 1) - 1) ≤ x4 then (KO82 x1 σ) else ((xldL σ 17 20 (x4 + 1)).bind fun v2 => (xstL σ 17 20 x4 v2).bind fun σ3 => f_X1_ask_L49 N KO82 n x1 (x4 + 1) σ3)
def f_X1_ask_J82 (N : Nat) (x1 : Int64) (σ : Wd) : Option Wd :=
  (xstL σ 17 20 ((σ.1 3 1) - 1) x1).bind fun σ4 => some σ4
def f_X1_ask_J36 (N : Nat) (x1 : Int64) (x3 : Int32) (σ : Wd) : Option Wd :=
  if x3 = (σ.1 3 1) then (f_X1_ask_L49 N (f_X1_ask_J82 N) N x1 0 σ) else (f_X1_ask_L49 N (f_X1_ask_J82 N) N x1 x3 σ)
def f_X1_ask (N : Nat) (a1 : Int64) (σ : Wd) : Option Wd :=
  (f_X1_placeOf N a1 σ).bind fun p1 => if p1.1 = (p1.2.1 3 1) then (if 20 ≤ (p1.2.1 3 1) then (f_X1_ask_J36 N a1 p1.1 p1.2) else (let σ5 : Wd := sF p1.2 3 1 ((p1.2.1 3 1) + 1)
  f_X1_ask_L49 N (f_X1_ask_J82 N) N a1 p1.1 σ5)) else (f_X1_ask_J36 N a1 p1.1 p1.2)
def a_X1_ask (N : Nat) : List Value → Wd → Option Wd := fun as σ => kSE 3 as (fun r0 => kSJ r0 (fun b1 r1 => kS0 r1 (f_X1_ask N b1 σ))) (none)
def ct_X1_ask (N : Nat) : List (Nat × Cal) := [(13, 2, 1, .inl (a_X1_placeOf N))]
set_option maxRecDepth 20000 in
theorem md_X1_ask (N : Nat) : MDOK T_X1_ask ft_X1 lt_X1 (ct_X1_ask N) cX1_ask RX1 2 := ⟨tc_X1_ask, fc_X1, lc_X1, List.forall_mem_cons.mpr ⟨Or.inl ⟨yX1_placeOf, cX1_placeOf, 4, (some .int), 1, k_X1_13, Nat.le_of_ble_eq_true rfl, C_X1_placeOf N⟩, (fun _ z => absurd z List.not_mem_nil)⟩⟩
set_option maxRecDepth 20000 in
theorem g_X1_ask_L49 (N : Nat) (KO82 : Int64 → Wd → Option Wd) (hKO82 : ∀ (x1 : Int64) (σ : Wd), GO cX1_ask RX1 5 2 sc0 nI0 nJ0 some (KO82 x1 σ) 82 (mkp 0 5 [(0, .ref 3), (1, .long x1)]) [] σ) : ∀ (n : Nat), ∀ (x1 : Int64) (x4 : Int32) (σ : Wd), GO cX1_ask RX1 5 2 sc0 nI0 nJ0 some (f_X1_ask_L49 N KO82 n x1 x4 σ) 49 (mkp 0 5 [(0, .ref 3), (1, .long x1), (4, .int x4)]) [] σ
  | 0, x1, x4, σ => GO.none
  | n + 1, x1, x4, σ => by
    exact (by refine GO.to (md_X1_ask N) (kl := [(82, fun vs st σ => kS0 st (kA 0 3 vs (kJ 1 vs (fun x1 => KO82 x1 σ)))), (49, fun vs st σ => kS0 st (kA 0 3 vs (kJ 1 vs (fun x1 => kI 4 vs (fun x4 => f_X1_ask_L49 N KO82 n x1 x4 σ)))))]) (List.forall_mem_cons.mpr ⟨fun vs st σ => go_kS0 (go_kA (fun h0 => go_kJ (fun x1 h1 => GO.pat [(0, .ref 3), (1, .long x1)] ⟨h0, h1, trivial⟩ (hKO82 x1 σ)))), List.forall_mem_cons.mpr ⟨fun vs st σ => go_kS0 (go_kA (fun h0 => go_kJ (fun x1 h1 => go_kI (fun x4 h4 => GO.pat [(0, .ref 3), (1, .long x1), (4, .int x4)] ⟨h0, h1, h4, trivial⟩ (g_X1_ask_L49 N KO82 hKO82 n x1 x4 σ))))), (fun _ z => absurd z List.not_mem_nil)⟩⟩) 59 ?_ ?_ <;> rfl)
theorem g_X1_ask_J82 (N : Nat) (x1 : Int64) (σ : Wd) : GO cX1_ask RX1 5 2 sc0 nI0 nJ0 some (f_X1_ask_J82 N x1 σ) 82 (mkp 0 5 [(0, .ref 3), (1, .long x1)]) [] σ := by
  exact (by refine GO.to (md_X1_ask N) (kl := []) ((fun _ z => absurd z List.not_mem_nil)) 59 ?_ ?_ <;> rfl)
theorem g_X1_ask_J36 (N : Nat) (x1 : Int64) (x3 : Int32) (σ : Wd) : GO cX1_ask RX1 5 2 sc0 nI0 nJ0 some (f_X1_ask_J36 N x1 x3 σ) 36 (mkp 0 5 [(0, .ref 3), (1, .long x1), (3, .int x3)]) [] σ := by
  exact (by refine GO.to (md_X1_ask N) (kl := [(49, fun vs st σ => kS0 st (kA 0 3 vs (kJ 1 vs (fun x1 => kI 4 vs (fun x4 => f_X1_ask_L49 N (f_X1_ask_J82 N) N x1 x4 σ)))))]) (List.forall_mem_cons.mpr ⟨fun vs st σ => go_kS0 (go_kA (fun h0 => go_kJ (fun x1 h1 => go_kI (fun x4 h4 => GO.pat [(0, .ref 3), (1, .long x1), (4, .int x4)] ⟨h0, h1, h4, trivial⟩ (g_X1_ask_L49 N (f_X1_ask_J82 N) (g_X1_ask_J82 N) N x1 x4 σ))))), (fun _ z => absurd z List.not_mem_nil)⟩) 59 ?_ ?_ <;> rfl)
set_option maxRecDepth 20000 in
theorem C_X1_ask (N : Nat) : CTV 2 yX1_ask cX1_ask 5 none (a_X1_ask N) := by
  refine CTV.of (own := RX1) (by decide) rfl (fun as σ r h => ?_)
  unfold a_X1_ask at h
  rcases kSE_s h with ⟨r0, rfl, h0⟩ | hn
  ·
    obtain ⟨b1, r1, rfl, h1⟩ := kSJ_s h0
    obtain ⟨rfl, h9⟩ := kS0_s h1
    exact ⟨Nat.le_of_ble_eq_true rfl, by refine GO.to (md_X1_ask N) (kl := [(36, fun vs st σ => kS0 st (kA 0 3 vs (kJ 1 vs (fun x1 => kI 3 vs (fun x3 => f_X1_ask_J36 N x1 x3 σ))))), (49, fun vs st σ => kS0 st (kA 0 3 vs (kJ 1 vs (fun x1 => kI 4 vs (fun x4 => f_X1_ask_L49 N (f_X1_ask_J82 N) N x1 x4 σ)))))]) (List.forall_mem_cons.mpr ⟨fun vs st σ => go_kS0 (go_kA (fun h0 => go_kJ (fun x1 h1 => go_kI (fun x3 h3 => GO.pat [(0, .ref 3), (1, .long x1), (3, .int x3)] ⟨h0, h1, h3, trivial⟩ (g_X1_ask_J36 N x1 x3 σ))))), List.forall_mem_cons.mpr ⟨fun vs st σ => go_kS0 (go_kA (fun h0 => go_kJ (fun x1 h1 => go_kI (fun x4 h4 => GO.pat [(0, .ref 3), (1, .long x1), (4, .int x4)] ⟨h0, h1, h4, trivial⟩ (g_X1_ask_L49 N (f_X1_ask_J82 N) (g_X1_ask_J82 N) N x1 x4 σ))))), (fun _ z => absurd z List.not_mem_nil)⟩⟩) 59 ?_ ?_ <;> rfl⟩
  cases hn
def ft_X5 : List (Nat × FTE) := [(11, 4, 0, 3), (15, 4, 1, 0), (19, 4, 3, 1), (23, 4, 2, 0)]
def lt_X5 : List (Nat × Int64) := [(32, 99)]
theorem fc_X5 : ft_X5.all (fun e => fldchk RX5 e && shchk e) = true := by decide +kernel
theorem lc_X5 : lt_X5.all (ltchk RX5) = true := by decide +kernel
def T_X5_holdBlocks : List (Nat × Ent) := [(0, .aload_n 0, 1, []), (1, .iconst 2, 2, []), (2, .putfield 15, 5, []), (5, .aload_n 0, 6, []), (6, .lload_n 1, 7, []), (7, .putfield 19, 10, []), (10, .return_, 11, [])]
set_option maxRecDepth 20000 in
theorem tc_X5_holdBlocks : T_X5_holdBlocks.all (chk cX5_holdBlocks) = true := by decide +kernel
def f_X5_holdBlocks (N : Nat) (K0 : Nat) (a1 : Int64) (σ : Wd) : Option Wd :=
  let σ1 : Wd := sF σ K0 1 2
  let σ2 : Wd := sG σ1 K0 3 a1
  some σ2
def a_X5_holdBlocks (N : Nat) : List Value → Wd → Option Wd := fun as σ => kSE 9 as (fun r0 => kSJ r0 (fun b1 r1 => kS0 r1 (f_X5_holdBlocks N 9 b1 σ))) (kSE 10 as (fun r0 => kSJ r0 (fun b1 r1 => kS0 r1 (f_X5_holdBlocks N 10 b1 σ))) (kSE 11 as (fun r0 => kSJ r0 (fun b1 r1 => kS0 r1 (f_X5_holdBlocks N 11 b1 σ))) (kSE 12 as (fun r0 => kSJ r0 (fun b1 r1 => kS0 r1 (f_X5_holdBlocks N 12 b1 σ))) (none))))
def ct_X5_holdBlocks (N : Nat) : List (Nat × Cal) := []
set_option maxRecDepth 20000 in
theorem md_X5_holdBlocks (N : Nat) : MDOK T_X5_holdBlocks ft_X5 lt_X5 (ct_X5_holdBlocks N) cX5_holdBlocks RX5 1 := ⟨tc_X5_holdBlocks, fc_X5, lc_X5, (fun _ z => absurd z List.not_mem_nil)⟩
set_option maxRecDepth 20000 in
theorem C_X5_holdBlocks (N : Nat) : CTV 1 yX5_holdBlocks cX5_holdBlocks 3 none (a_X5_holdBlocks N) := by
  refine CTV.of (own := RX5) (by decide) rfl (fun as σ r h => ?_)
  unfold a_X5_holdBlocks at h
  rcases kSE_s h with ⟨r0, rfl, h0⟩ | hn
  ·
    obtain ⟨b1, r1, rfl, h1⟩ := kSJ_s h0
    obtain ⟨rfl, h9⟩ := kS0_s h1
    exact ⟨Nat.le_of_ble_eq_true rfl, by refine GO.to (md_X5_holdBlocks N) (kl := []) ((fun _ z => absurd z List.not_mem_nil)) 12 ?_ ?_ <;> rfl⟩
  rcases kSE_s hn with ⟨r0, rfl, h0⟩ | hnn
  ·
    obtain ⟨b1, r1, rfl, h1⟩ := kSJ_s h0
    obtain ⟨rfl, h9⟩ := kS0_s h1
    exact ⟨Nat.le_of_ble_eq_true rfl, by refine GO.to (md_X5_holdBlocks N) (kl := []) ((fun _ z => absurd z List.not_mem_nil)) 12 ?_ ?_ <;> rfl⟩
  rcases kSE_s hnn with ⟨r0, rfl, h0⟩ | hnnn
  ·
    obtain ⟨b1, r1, rfl, h1⟩ := kSJ_s h0
    obtain ⟨rfl, h9⟩ := kS0_s h1
    exact ⟨Nat.le_of_ble_eq_true rfl, by refine GO.to (md_X5_holdBlocks N) (kl := []) ((fun _ z => absurd z List.not_mem_nil)) 12 ?_ ?_ <;> rfl⟩
  rcases kSE_s hnnn with ⟨r0, rfl, h0⟩ | hnnnn
  ·
    obtain ⟨b1, r1, rfl, h1⟩ := kSJ_s h0
    obtain ⟨rfl, h9⟩ := kS0_s h1
    exact ⟨Nat.le_of_ble_eq_true rfl, by refine GO.to (md_X5_holdBlocks N) (kl := []) ((fun _ z => absurd z List.not_mem_nil)) 12 ?_ ?_ <;> rfl⟩
  cases hnnnn
def T_X5_holdRow : List (Nat × Ent) := [(0, .aload_n 0, 1, []), (1, .iload_n 1, 2, []), (2, .putfield 15, 5, []), (5, .aload_n 0, 6, []), (6, .iload_n 2, 7, []), (7, .putfield 23, 10, []), (10, .iconst 0, 11, []), (11, .istore_n 3, 12, []), (12, .iload_n 3, 13, []), (13, .iload_n 2, 14, []), (14, .if_icmp .ge 16, 17, [30]), (17, .aload_n 0, 18, []), (18, .getfield 11, 21, []), (21, .iload_n 3, 22, []), (22, .lconst 0, 23, []), (23, .lastore, 24, []), (24, .iinc 3 1, 27, []), (27, .goto (-15), 30, [12]), (30, .return_, 31, [])]
set_option maxRecDepth 20000 in
theorem tc_X5_holdRow : T_X5_holdRow.all (chk cX5_holdRow) = true := by decide +kernel
def f_X5_holdRow_L12 (N : Nat) (K0 : Nat) (KO30 : Wd → Option Wd) : Nat → Int32 → Int32 → Wd → Option Wd
  | 0, _, _, _ => none
  | n + 1, x2, x3, σ => if x2 ≤ x3 then (KO30 σ) else ((xstL σ (K0 + 28) 20 x3 0).bind fun σ3 => f_X5_holdRow_L12 N K0 KO30 n x2 (x3 + 1) σ3)
def f_X5_holdRow_J30 (N : Nat) (K0 : Nat) (σ : Wd) : Option Wd :=
  some σ
def f_X5_holdRow (N : Nat) (K0 : Nat) (a1 : Int32) (a2 : Int32) (σ : Wd) : Option Wd :=
  let σ1 : Wd := sF σ K0 1 a1
  let σ2 : Wd := sF σ1 K0 2 a2
  f_X5_holdRow_L12 N K0 (f_X5_holdRow_J30 N K0) N a2 0 σ2
def a_X5_holdRow (N : Nat) : List Value → Wd → Option Wd := fun as σ => kSE 9 as (fun r0 => kSI r0 (fun b1 r1 => kSI r1 (fun b2 r2 => kS0 r2 (f_X5_holdRow N 9 b1 b2 σ)))) (kSE 10 as (fun r0 => kSI r0 (fun b1 r1 => kSI r1 (fun b2 r2 => kS0 r2 (f_X5_holdRow N 10 b1 b2 σ)))) (kSE 11 as (fun r0 => kSI r0 (fun b1 r1 => kSI r1 (fun b2 r2 => kS0 r2 (f_X5_holdRow N 11 b1 b2 σ)))) (kSE 12 as (fun r0 => kSI r0 (fun b1 r1 => kSI r1 (fun b2 r2 => kS0 r2 (f_X5_holdRow N 12 b1 b2 σ)))) (none))))
def ct_X5_holdRow (N : Nat) : List (Nat × Cal) := []
set_option maxRecDepth 20000 in
theorem md_X5_holdRow (N : Nat) : MDOK T_X5_holdRow ft_X5 lt_X5 (ct_X5_holdRow N) cX5_holdRow RX5 1 := ⟨tc_X5_holdRow, fc_X5, lc_X5, (fun _ z => absurd z List.not_mem_nil)⟩
set_option maxRecDepth 20000 in
theorem g_X5_holdRow_L12 (N : Nat) (K0 : Nat) (hK0 : K0 = 9 ∨ K0 = 10 ∨ K0 = 11 ∨ K0 = 12) (KO30 : Wd → Option Wd) (hKO30 : ∀ (σ : Wd), GO cX5_holdRow RX5 4 1 sc0 nI0 nJ0 some (KO30 σ) 30 (mkp 0 4 []) [] σ) : ∀ (n : Nat), ∀ (x2 : Int32) (x3 : Int32) (σ : Wd), GO cX5_holdRow RX5 4 1 sc0 nI0 nJ0 some (f_X5_holdRow_L12 N K0 KO30 n x2 x3 σ) 12 (mkp 0 4 [(0, .ref K0), (2, .int x2), (3, .int x3)]) [] σ
  | 0, x2, x3, σ => GO.none
  | n + 1, x2, x3, σ => by
    rcases hK0 with rfl | rfl | rfl | rfl
    · exact (by refine GO.to (md_X5_holdRow N) (kl := [(30, fun vs st σ => kS0 st (KO30 σ)), (12, fun vs st σ => kS0 st (kA 0 9 vs (kI 2 vs (fun x2 => kI 3 vs (fun x3 => f_X5_holdRow_L12 N 9 KO30 n x2 x3 σ)))))]) (List.forall_mem_cons.mpr ⟨fun vs st σ => go_kS0 (GO.pat [] trivial (hKO30 σ)), List.forall_mem_cons.mpr ⟨fun vs st σ => go_kS0 (go_kA (fun h0 => go_kI (fun x2 h2 => go_kI (fun x3 h3 => GO.pat [(0, .ref 9), (2, .int x2), (3, .int x3)] ⟨h0, h2, h3, trivial⟩ (g_X5_holdRow_L12 N 9 (Or.inl rfl) KO30 hKO30 n x2 x3 σ))))), (fun _ z => absurd z List.not_mem_nil)⟩⟩) 24 ?_ ?_ <;> rfl)
    · exact (by refine GO.to (md_X5_holdRow N) (kl := [(30, fun vs st σ => kS0 st (KO30 σ)), (12, fun vs st σ => kS0 st (kA 0 10 vs (kI 2 vs (fun x2 => kI 3 vs (fun x3 => f_X5_holdRow_L12 N 10 KO30 n x2 x3 σ)))))]) (List.forall_mem_cons.mpr ⟨fun vs st σ => go_kS0 (GO.pat [] trivial (hKO30 σ)), List.forall_mem_cons.mpr ⟨fun vs st σ => go_kS0 (go_kA (fun h0 => go_kI (fun x2 h2 => go_kI (fun x3 h3 => GO.pat [(0, .ref 10), (2, .int x2), (3, .int x3)] ⟨h0, h2, h3, trivial⟩ (g_X5_holdRow_L12 N 10 (Or.inr (Or.inl rfl)) KO30 hKO30 n x2 x3 σ))))), (fun _ z => absurd z List.not_mem_nil)⟩⟩) 24 ?_ ?_ <;> rfl)
    · exact (by refine GO.to (md_X5_holdRow N) (kl := [(30, fun vs st σ => kS0 st (KO30 σ)), (12, fun vs st σ => kS0 st (kA 0 11 vs (kI 2 vs (fun x2 => kI 3 vs (fun x3 => f_X5_holdRow_L12 N 11 KO30 n x2 x3 σ)))))]) (List.forall_mem_cons.mpr ⟨fun vs st σ => go_kS0 (GO.pat [] trivial (hKO30 σ)), List.forall_mem_cons.mpr ⟨fun vs st σ => go_kS0 (go_kA (fun h0 => go_kI (fun x2 h2 => go_kI (fun x3 h3 => GO.pat [(0, .ref 11), (2, .int x2), (3, .int x3)] ⟨h0, h2, h3, trivial⟩ (g_X5_holdRow_L12 N 11 (Or.inr (Or.inr (Or.inl rfl))) KO30 hKO30 n x2 x3 σ))))), (fun _ z => absurd z List.not_mem_nil)⟩⟩) 24 ?_ ?_ <;> rfl)
    · exact (by refine GO.to (md_X5_holdRow N) (kl := [(30, fun vs st σ => kS0 st (KO30 σ)), (12, fun vs st σ => kS0 st (kA 0 12 vs (kI 2 vs (fun x2 => kI 3 vs (fun x3 => f_X5_holdRow_L12 N 12 KO30 n x2 x3 σ)))))]) (List.forall_mem_cons.mpr ⟨fun vs st σ => go_kS0 (GO.pat [] trivial (hKO30 σ)), List.forall_mem_cons.mpr ⟨fun vs st σ => go_kS0 (go_kA (fun h0 => go_kI (fun x2 h2 => go_kI (fun x3 h3 => GO.pat [(0, .ref 12), (2, .int x2), (3, .int x3)] ⟨h0, h2, h3, trivial⟩ (g_X5_holdRow_L12 N 12 (Or.inr (Or.inr (Or.inr rfl))) KO30 hKO30 n x2 x3 σ))))), (fun _ z => absurd z List.not_mem_nil)⟩⟩) 24 ?_ ?_ <;> rfl)
theorem g_X5_holdRow_J30 (N : Nat) (K0 : Nat) (hK0 : K0 = 9 ∨ K0 = 10 ∨ K0 = 11 ∨ K0 = 12) (σ : Wd) : GO cX5_holdRow RX5 4 1 sc0 nI0 nJ0 some (f_X5_holdRow_J30 N K0 σ) 30 (mkp 0 4 []) [] σ := by
  rcases hK0 with rfl | rfl | rfl | rfl
  · exact (by refine GO.to (md_X5_holdRow N) (kl := []) ((fun _ z => absurd z List.not_mem_nil)) 24 ?_ ?_ <;> rfl)
  · exact (by refine GO.to (md_X5_holdRow N) (kl := []) ((fun _ z => absurd z List.not_mem_nil)) 24 ?_ ?_ <;> rfl)
  · exact (by refine GO.to (md_X5_holdRow N) (kl := []) ((fun _ z => absurd z List.not_mem_nil)) 24 ?_ ?_ <;> rfl)
  · exact (by refine GO.to (md_X5_holdRow N) (kl := []) ((fun _ z => absurd z List.not_mem_nil)) 24 ?_ ?_ <;> rfl)
set_option maxRecDepth 20000 in
theorem C_X5_holdRow (N : Nat) : CTV 1 yX5_holdRow cX5_holdRow 4 none (a_X5_holdRow N) := by
  refine CTV.of (own := RX5) (by decide) rfl (fun as σ r h => ?_)
  unfold a_X5_holdRow at h
  rcases kSE_s h with ⟨r0, rfl, h0⟩ | hn
  ·
    obtain ⟨b1, r1, rfl, h1⟩ := kSI_s h0
    obtain ⟨b2, r2, rfl, h2⟩ := kSI_s h1
    obtain ⟨rfl, h9⟩ := kS0_s h2
    exact ⟨Nat.le_of_ble_eq_true rfl, by refine GO.to (md_X5_holdRow N) (kl := [(12, fun vs st σ => kS0 st (kA 0 9 vs (kI 2 vs (fun x2 => kI 3 vs (fun x3 => f_X5_holdRow_L12 N 9 (f_X5_holdRow_J30 N 9) N x2 x3 σ)))))]) (List.forall_mem_cons.mpr ⟨fun vs st σ => go_kS0 (go_kA (fun h0 => go_kI (fun x2 h2 => go_kI (fun x3 h3 => GO.pat [(0, .ref 9), (2, .int x2), (3, .int x3)] ⟨h0, h2, h3, trivial⟩ (g_X5_holdRow_L12 N 9 (Or.inl rfl) (f_X5_holdRow_J30 N 9) (g_X5_holdRow_J30 N 9 (Or.inl rfl)) N x2 x3 σ))))), (fun _ z => absurd z List.not_mem_nil)⟩) 24 ?_ ?_ <;> rfl⟩
  rcases kSE_s hn with ⟨r0, rfl, h0⟩ | hnn
  ·
    obtain ⟨b1, r1, rfl, h1⟩ := kSI_s h0
    obtain ⟨b2, r2, rfl, h2⟩ := kSI_s h1
    obtain ⟨rfl, h9⟩ := kS0_s h2
    exact ⟨Nat.le_of_ble_eq_true rfl, by refine GO.to (md_X5_holdRow N) (kl := [(12, fun vs st σ => kS0 st (kA 0 10 vs (kI 2 vs (fun x2 => kI 3 vs (fun x3 => f_X5_holdRow_L12 N 10 (f_X5_holdRow_J30 N 10) N x2 x3 σ)))))]) (List.forall_mem_cons.mpr ⟨fun vs st σ => go_kS0 (go_kA (fun h0 => go_kI (fun x2 h2 => go_kI (fun x3 h3 => GO.pat [(0, .ref 10), (2, .int x2), (3, .int x3)] ⟨h0, h2, h3, trivial⟩ (g_X5_holdRow_L12 N 10 (Or.inr (Or.inl rfl)) (f_X5_holdRow_J30 N 10) (g_X5_holdRow_J30 N 10 (Or.inr (Or.inl rfl))) N x2 x3 σ))))), (fun _ z => absurd z List.not_mem_nil)⟩) 24 ?_ ?_ <;> rfl⟩
  rcases kSE_s hnn with ⟨r0, rfl, h0⟩ | hnnn
  ·
    obtain ⟨b1, r1, rfl, h1⟩ := kSI_s h0
    obtain ⟨b2, r2, rfl, h2⟩ := kSI_s h1
    obtain ⟨rfl, h9⟩ := kS0_s h2
    exact ⟨Nat.le_of_ble_eq_true rfl, by refine GO.to (md_X5_holdRow N) (kl := [(12, fun vs st σ => kS0 st (kA 0 11 vs (kI 2 vs (fun x2 => kI 3 vs (fun x3 => f_X5_holdRow_L12 N 11 (f_X5_holdRow_J30 N 11) N x2 x3 σ)))))]) (List.forall_mem_cons.mpr ⟨fun vs st σ => go_kS0 (go_kA (fun h0 => go_kI (fun x2 h2 => go_kI (fun x3 h3 => GO.pat [(0, .ref 11), (2, .int x2), (3, .int x3)] ⟨h0, h2, h3, trivial⟩ (g_X5_holdRow_L12 N 11 (Or.inr (Or.inr (Or.inl rfl))) (f_X5_holdRow_J30 N 11) (g_X5_holdRow_J30 N 11 (Or.inr (Or.inr (Or.inl rfl)))) N x2 x3 σ))))), (fun _ z => absurd z List.not_mem_nil)⟩) 24 ?_ ?_ <;> rfl⟩
  rcases kSE_s hnnn with ⟨r0, rfl, h0⟩ | hnnnn
  ·
    obtain ⟨b1, r1, rfl, h1⟩ := kSI_s h0
    obtain ⟨b2, r2, rfl, h2⟩ := kSI_s h1
    obtain ⟨rfl, h9⟩ := kS0_s h2
    exact ⟨Nat.le_of_ble_eq_true rfl, by refine GO.to (md_X5_holdRow N) (kl := [(12, fun vs st σ => kS0 st (kA 0 12 vs (kI 2 vs (fun x2 => kI 3 vs (fun x3 => f_X5_holdRow_L12 N 12 (f_X5_holdRow_J30 N 12) N x2 x3 σ)))))]) (List.forall_mem_cons.mpr ⟨fun vs st σ => go_kS0 (go_kA (fun h0 => go_kI (fun x2 h2 => go_kI (fun x3 h3 => GO.pat [(0, .ref 12), (2, .int x2), (3, .int x3)] ⟨h0, h2, h3, trivial⟩ (g_X5_holdRow_L12 N 12 (Or.inr (Or.inr (Or.inr rfl))) (f_X5_holdRow_J30 N 12) (g_X5_holdRow_J30 N 12 (Or.inr (Or.inr (Or.inr rfl)))) N x2 x3 σ))))), (fun _ z => absurd z List.not_mem_nil)⟩) 24 ?_ ?_ <;> rfl⟩
  cases hnnnn
def T_X5_isRow : List (Nat × Ent) := [(0, .aload_n 0, 1, []), (1, .getfield 15, 4, []), (4, .ifCond .eq 11, 7, [15]), (7, .aload_n 0, 8, []), (8, .getfield 15, 11, []), (11, .iconst 1, 12, []), (12, .if_icmp .ne 7, 15, [19]), (15, .iconst 1, 16, []), (16, .goto 4, 19, [20]), (19, .iconst 0, 20, []), (20, .ireturn, 21, [])]
set_option maxRecDepth 20000 in
theorem tc_X5_isRow : T_X5_isRow.all (chk cX5_isRow) = true := by decide +kernel
def f_X5_isRow (N : Nat) (K0 : Nat) (σ : Wd) : Option (Int32 × Wd) :=
  if (σ.1 K0 1) = 0 then (some (1, σ)) else (if (σ.1 K0 1) = 1 then (some (1, σ)) else (some (0, σ)))
def a_X5_isRow (N : Nat) : List Value → Wd → Option (Int32 × Wd) := fun as σ => kSE 9 as (fun r0 => kS0 r0 (f_X5_isRow N 9 σ)) (kSE 10 as (fun r0 => kS0 r0 (f_X5_isRow N 10 σ)) (kSE 11 as (fun r0 => kS0 r0 (f_X5_isRow N 11 σ)) (kSE 12 as (fun r0 => kS0 r0 (f_X5_isRow N 12 σ)) (none))))
def ct_X5_isRow (N : Nat) : List (Nat × Cal) := []
set_option maxRecDepth 20000 in
theorem md_X5_isRow (N : Nat) : MDOK T_X5_isRow ft_X5 lt_X5 (ct_X5_isRow N) cX5_isRow RX5 1 := ⟨tc_X5_isRow, fc_X5, lc_X5, (fun _ z => absurd z List.not_mem_nil)⟩
set_option maxRecDepth 20000 in
theorem C_X5_isRow (N : Nat) : CTI 1 yX5_isRow cX5_isRow 1 (some .boolean) (a_X5_isRow N) := by
  refine CTZ.of (own := RX5) (by decide) rfl (fun as σ r h => ?_)
  unfold a_X5_isRow at h
  rcases kSE_s h with ⟨r0, rfl, h0⟩ | hn
  ·
    obtain ⟨rfl, h9⟩ := kS0_s h0
    exact ⟨Nat.le_of_ble_eq_true rfl, by refine GO.to (md_X5_isRow N) (kl := []) ((fun _ z => absurd z List.not_mem_nil)) 16 ?_ ?_ <;> rfl⟩
  rcases kSE_s hn with ⟨r0, rfl, h0⟩ | hnn
  ·
    obtain ⟨rfl, h9⟩ := kS0_s h0
    exact ⟨Nat.le_of_ble_eq_true rfl, by refine GO.to (md_X5_isRow N) (kl := []) ((fun _ z => absurd z List.not_mem_nil)) 16 ?_ ?_ <;> rfl⟩
  rcases kSE_s hnn with ⟨r0, rfl, h0⟩ | hnnn
  ·
    obtain ⟨rfl, h9⟩ := kS0_s h0
    exact ⟨Nat.le_of_ble_eq_true rfl, by refine GO.to (md_X5_isRow N) (kl := []) ((fun _ z => absurd z List.not_mem_nil)) 16 ?_ ?_ <;> rfl⟩
  rcases kSE_s hnnn with ⟨r0, rfl, h0⟩ | hnnnn
  ·
    obtain ⟨rfl, h9⟩ := kS0_s h0
    exact ⟨Nat.le_of_ble_eq_true rfl, by refine GO.to (md_X5_isRow N) (kl := []) ((fun _ z => absurd z List.not_mem_nil)) 16 ?_ ?_ <;> rfl⟩
  cases hnnnn
def T_X5_leadingArrivals : List (Nat × Ent) := [(0, .aload_n 0, 1, []), (1, .getfield 23, 4, []), (4, .bipush 12, 6, []), (6, .invokestatic 26, 9, []), (9, .istore_n 1, 10, []), (10, .iconst 0, 11, []), (11, .istore_n 2, 12, []), (12, .iload_n 2, 13, []), (13, .iload_n 1, 14, []), (14, .if_icmp .ge 33, 17, [47]), (17, .aload_n 0, 18, []), (18, .getfield 11, 21, []), (21, .iload_n 2, 22, []), (22, .laload, 23, []), (23, .lconst 0, 24, []), (24, .lcmp, 25, []), (25, .ifCond .lt 22, 28, [47]), (28, .aload_n 0, 29, []), (29, .getfield 11, 32, []), (32, .iload_n 2, 33, []), (33, .laload, 34, []), (34, .ldc2_w 32, 37, []), (37, .lcmp, 38, []), (38, .ifCond .gt 9, 41, [47]), (41, .iinc 2 1, 44, []), (44, .goto (-32), 47, [12]), (47, .iload_n 2, 48, []), (48, .ireturn, 49, [])]
set_option maxRecDepth 20000 in
theorem tc_X5_leadingArrivals : T_X5_leadingArrivals.all (chk cX5_leadingArrivals) = true := by decide +kernel
def f_X5_leadingArrivals_L12 (N : Nat) (K0 : Nat) (KO47 : Int32 → Wd → Option (Int32 × Wd)) : Nat → Int32 → Int32 → Wd → Option (Int32 × Wd)
  | 0, _, _, _ => none
  | n + 1, x1, x2, σ => if x1 ≤ x2 then (KO47 x2 σ) else ((xldL σ (K0 + 28) 20 x2).bind fun v2 => if (lg_cmp v2 0) < 0 then (KO47 x2 σ) else ((xldL σ (K0 + 28) 20 x2).bind fun v3 => if 0 < (lg_cmp v3 99) then (KO47 x2 σ) else (f_X5_leadingArrivals_L12 N K0 KO47 n x1 (x2 + 1) σ)))
def f_X5_leadingArrivals_J47 (N : Nat) (K0 : Nat) (x2 : Int32) (σ : Wd) : Option (Int32 × Wd) :=
  some (x2, σ)
def f_X5_leadingArrivals (N : Nat) (K0 : Nat) (σ : Wd) : Option (Int32 × Wd) :=
  (f_J9_min_7cf53 N (σ.1 K0 2) 12 σ).bind fun p1 => f_X5_leadingArrivals_L12 N K0 (f_X5_leadingArrivals_J47 N K0) N p1.1 0 p1.2
def a_X5_leadingArrivals (N : Nat) : List Value → Wd → Option (Int32 × Wd) := fun as σ => kSE 9 as (fun r0 => kS0 r0 (f_X5_leadingArrivals N 9 σ)) (kSE 10 as (fun r0 => kS0 r0 (f_X5_leadingArrivals N 10 σ)) (kSE 11 as (fun r0 => kS0 r0 (f_X5_leadingArrivals N 11 σ)) (kSE 12 as (fun r0 => kS0 r0 (f_X5_leadingArrivals N 12 σ)) (none))))
set_option maxRecDepth 20000 in
theorem k_X5_26 : mmchk RX5 26 Lib.Math.min.name Lib.Math.min.code = true := by decide +kernel
def ct_X5_leadingArrivals (N : Nat) : List (Nat × Cal) := [(26, 2, 0, .inl amin)]
set_option maxRecDepth 20000 in
theorem md_X5_leadingArrivals (N : Nat) : MDOK T_X5_leadingArrivals ft_X5 lt_X5 (ct_X5_leadingArrivals N) cX5_leadingArrivals RX5 2 := ⟨tc_X5_leadingArrivals, fc_X5, lc_X5, List.forall_mem_cons.mpr ⟨Or.inr (Or.inr ⟨rfl, k_X5_26, Nat.le_of_ble_eq_true rfl⟩), (fun _ z => absurd z List.not_mem_nil)⟩⟩
set_option maxRecDepth 20000 in
theorem g_X5_leadingArrivals_L12 (N : Nat) (K0 : Nat) (hK0 : K0 = 9 ∨ K0 = 10 ∨ K0 = 11 ∨ K0 = 12) (KO47 : Int32 → Wd → Option (Int32 × Wd)) (hKO47 : ∀ (x2 : Int32) (σ : Wd), GO cX5_leadingArrivals RX5 3 2 sc0 rI nJ0 nV0 (KO47 x2 σ) 47 (mkp 0 3 [(2, .int x2)]) [] σ) : ∀ (n : Nat), ∀ (x1 : Int32) (x2 : Int32) (σ : Wd), GO cX5_leadingArrivals RX5 3 2 sc0 rI nJ0 nV0 (f_X5_leadingArrivals_L12 N K0 KO47 n x1 x2 σ) 12 (mkp 0 3 [(0, .ref K0), (1, .int x1), (2, .int x2)]) [] σ
  | 0, x1, x2, σ => GO.none
  | n + 1, x1, x2, σ => by
    rcases hK0 with rfl | rfl | rfl | rfl
    · exact (by refine GO.to (md_X5_leadingArrivals N) (kl := [(47, fun vs st σ => kS0 st (kI 2 vs (fun x2 => KO47 x2 σ))), (12, fun vs st σ => kS0 st (kA 0 9 vs (kI 1 vs (fun x1 => kI 2 vs (fun x2 => f_X5_leadingArrivals_L12 N 9 KO47 n x1 x2 σ)))))]) (List.forall_mem_cons.mpr ⟨fun vs st σ => go_kS0 (go_kI (fun x2 h2 => GO.pat [(2, .int x2)] ⟨h2, trivial⟩ (hKO47 x2 σ))), List.forall_mem_cons.mpr ⟨fun vs st σ => go_kS0 (go_kA (fun h0 => go_kI (fun x1 h1 => go_kI (fun x2 h2 => GO.pat [(0, .ref 9), (1, .int x1), (2, .int x2)] ⟨h0, h1, h2, trivial⟩ (g_X5_leadingArrivals_L12 N 9 (Or.inl rfl) KO47 hKO47 n x1 x2 σ))))), (fun _ z => absurd z List.not_mem_nil)⟩⟩) 33 ?_ ?_ <;> rfl)
    · exact (by refine GO.to (md_X5_leadingArrivals N) (kl := [(47, fun vs st σ => kS0 st (kI 2 vs (fun x2 => KO47 x2 σ))), (12, fun vs st σ => kS0 st (kA 0 10 vs (kI 1 vs (fun x1 => kI 2 vs (fun x2 => f_X5_leadingArrivals_L12 N 10 KO47 n x1 x2 σ)))))]) (List.forall_mem_cons.mpr ⟨fun vs st σ => go_kS0 (go_kI (fun x2 h2 => GO.pat [(2, .int x2)] ⟨h2, trivial⟩ (hKO47 x2 σ))), List.forall_mem_cons.mpr ⟨fun vs st σ => go_kS0 (go_kA (fun h0 => go_kI (fun x1 h1 => go_kI (fun x2 h2 => GO.pat [(0, .ref 10), (1, .int x1), (2, .int x2)] ⟨h0, h1, h2, trivial⟩ (g_X5_leadingArrivals_L12 N 10 (Or.inr (Or.inl rfl)) KO47 hKO47 n x1 x2 σ))))), (fun _ z => absurd z List.not_mem_nil)⟩⟩) 33 ?_ ?_ <;> rfl)
    · exact (by refine GO.to (md_X5_leadingArrivals N) (kl := [(47, fun vs st σ => kS0 st (kI 2 vs (fun x2 => KO47 x2 σ))), (12, fun vs st σ => kS0 st (kA 0 11 vs (kI 1 vs (fun x1 => kI 2 vs (fun x2 => f_X5_leadingArrivals_L12 N 11 KO47 n x1 x2 σ)))))]) (List.forall_mem_cons.mpr ⟨fun vs st σ => go_kS0 (go_kI (fun x2 h2 => GO.pat [(2, .int x2)] ⟨h2, trivial⟩ (hKO47 x2 σ))), List.forall_mem_cons.mpr ⟨fun vs st σ => go_kS0 (go_kA (fun h0 => go_kI (fun x1 h1 => go_kI (fun x2 h2 => GO.pat [(0, .ref 11), (1, .int x1), (2, .int x2)] ⟨h0, h1, h2, trivial⟩ (g_X5_leadingArrivals_L12 N 11 (Or.inr (Or.inr (Or.inl rfl))) KO47 hKO47 n x1 x2 σ))))), (fun _ z => absurd z List.not_mem_nil)⟩⟩) 33 ?_ ?_ <;> rfl)
    · exact (by refine GO.to (md_X5_leadingArrivals N) (kl := [(47, fun vs st σ => kS0 st (kI 2 vs (fun x2 => KO47 x2 σ))), (12, fun vs st σ => kS0 st (kA 0 12 vs (kI 1 vs (fun x1 => kI 2 vs (fun x2 => f_X5_leadingArrivals_L12 N 12 KO47 n x1 x2 σ)))))]) (List.forall_mem_cons.mpr ⟨fun vs st σ => go_kS0 (go_kI (fun x2 h2 => GO.pat [(2, .int x2)] ⟨h2, trivial⟩ (hKO47 x2 σ))), List.forall_mem_cons.mpr ⟨fun vs st σ => go_kS0 (go_kA (fun h0 => go_kI (fun x1 h1 => go_kI (fun x2 h2 => GO.pat [(0, .ref 12), (1, .int x1), (2, .int x2)] ⟨h0, h1, h2, trivial⟩ (g_X5_leadingArrivals_L12 N 12 (Or.inr (Or.inr (Or.inr rfl))) KO47 hKO47 n x1 x2 σ))))), (fun _ z => absurd z List.not_mem_nil)⟩⟩) 33 ?_ ?_ <;> rfl)
theorem g_X5_leadingArrivals_J47 (N : Nat) (K0 : Nat) (hK0 : K0 = 9 ∨ K0 = 10 ∨ K0 = 11 ∨ K0 = 12) (x2 : Int32) (σ : Wd) : GO cX5_leadingArrivals RX5 3 2 sc0 rI nJ0 nV0 (f_X5_leadingArrivals_J47 N K0 x2 σ) 47 (mkp 0 3 [(2, .int x2)]) [] σ := by
  rcases hK0 with rfl | rfl | rfl | rfl
  · exact (by refine GO.to (md_X5_leadingArrivals N) (kl := []) ((fun _ z => absurd z List.not_mem_nil)) 33 ?_ ?_ <;> rfl)
  · exact (by refine GO.to (md_X5_leadingArrivals N) (kl := []) ((fun _ z => absurd z List.not_mem_nil)) 33 ?_ ?_ <;> rfl)
  · exact (by refine GO.to (md_X5_leadingArrivals N) (kl := []) ((fun _ z => absurd z List.not_mem_nil)) 33 ?_ ?_ <;> rfl)
  · exact (by refine GO.to (md_X5_leadingArrivals N) (kl := []) ((fun _ z => absurd z List.not_mem_nil)) 33 ?_ ?_ <;> rfl)
set_option maxRecDepth 20000 in
theorem C_X5_leadingArrivals (N : Nat) : CTI 2 yX5_leadingArrivals cX5_leadingArrivals 3 (some .int) (a_X5_leadingArrivals N) := by
  refine CTI.of (own := RX5) (by decide) rfl (fun as σ r h => ?_)
  unfold a_X5_leadingArrivals at h
  rcases kSE_s h with ⟨r0, rfl, h0⟩ | hn
  ·
    obtain ⟨rfl, h9⟩ := kS0_s h0
    exact ⟨Nat.le_of_ble_eq_true rfl, by refine GO.to (md_X5_leadingArrivals N) (kl := [(12, fun vs st σ => kS0 st (kA 0 9 vs (kI 1 vs (fun x1 => kI 2 vs (fun x2 => f_X5_leadingArrivals_L12 N 9 (f_X5_leadingArrivals_J47 N 9) N x1 x2 σ)))))]) (List.forall_mem_cons.mpr ⟨fun vs st σ => go_kS0 (go_kA (fun h0 => go_kI (fun x1 h1 => go_kI (fun x2 h2 => GO.pat [(0, .ref 9), (1, .int x1), (2, .int x2)] ⟨h0, h1, h2, trivial⟩ (g_X5_leadingArrivals_L12 N 9 (Or.inl rfl) (f_X5_leadingArrivals_J47 N 9) (g_X5_leadingArrivals_J47 N 9 (Or.inl rfl)) N x1 x2 σ))))), (fun _ z => absurd z List.not_mem_nil)⟩) 33 ?_ ?_ <;> rfl⟩
  rcases kSE_s hn with ⟨r0, rfl, h0⟩ | hnn
  ·
    obtain ⟨rfl, h9⟩ := kS0_s h0
    exact ⟨Nat.le_of_ble_eq_true rfl, by refine GO.to (md_X5_leadingArrivals N) (kl := [(12, fun vs st σ => kS0 st (kA 0 10 vs (kI 1 vs (fun x1 => kI 2 vs (fun x2 => f_X5_leadingArrivals_L12 N 10 (f_X5_leadingArrivals_J47 N 10) N x1 x2 σ)))))]) (List.forall_mem_cons.mpr ⟨fun vs st σ => go_kS0 (go_kA (fun h0 => go_kI (fun x1 h1 => go_kI (fun x2 h2 => GO.pat [(0, .ref 10), (1, .int x1), (2, .int x2)] ⟨h0, h1, h2, trivial⟩ (g_X5_leadingArrivals_L12 N 10 (Or.inr (Or.inl rfl)) (f_X5_leadingArrivals_J47 N 10) (g_X5_leadingArrivals_J47 N 10 (Or.inr (Or.inl rfl))) N x1 x2 σ))))), (fun _ z => absurd z List.not_mem_nil)⟩) 33 ?_ ?_ <;> rfl⟩
  rcases kSE_s hnn with ⟨r0, rfl, h0⟩ | hnnn
  ·
    obtain ⟨rfl, h9⟩ := kS0_s h0
    exact ⟨Nat.le_of_ble_eq_true rfl, by refine GO.to (md_X5_leadingArrivals N) (kl := [(12, fun vs st σ => kS0 st (kA 0 11 vs (kI 1 vs (fun x1 => kI 2 vs (fun x2 => f_X5_leadingArrivals_L12 N 11 (f_X5_leadingArrivals_J47 N 11) N x1 x2 σ)))))]) (List.forall_mem_cons.mpr ⟨fun vs st σ => go_kS0 (go_kA (fun h0 => go_kI (fun x1 h1 => go_kI (fun x2 h2 => GO.pat [(0, .ref 11), (1, .int x1), (2, .int x2)] ⟨h0, h1, h2, trivial⟩ (g_X5_leadingArrivals_L12 N 11 (Or.inr (Or.inr (Or.inl rfl))) (f_X5_leadingArrivals_J47 N 11) (g_X5_leadingArrivals_J47 N 11 (Or.inr (Or.inr (Or.inl rfl)))) N x1 x2 σ))))), (fun _ z => absurd z List.not_mem_nil)⟩) 33 ?_ ?_ <;> rfl⟩
  rcases kSE_s hnnn with ⟨r0, rfl, h0⟩ | hnnnn
  ·
    obtain ⟨rfl, h9⟩ := kS0_s h0
    exact ⟨Nat.le_of_ble_eq_true rfl, by refine GO.to (md_X5_leadingArrivals N) (kl := [(12, fun vs st σ => kS0 st (kA 0 12 vs (kI 1 vs (fun x1 => kI 2 vs (fun x2 => f_X5_leadingArrivals_L12 N 12 (f_X5_leadingArrivals_J47 N 12) N x1 x2 σ)))))]) (List.forall_mem_cons.mpr ⟨fun vs st σ => go_kS0 (go_kA (fun h0 => go_kI (fun x1 h1 => go_kI (fun x2 h2 => GO.pat [(0, .ref 12), (1, .int x1), (2, .int x2)] ⟨h0, h1, h2, trivial⟩ (g_X5_leadingArrivals_L12 N 12 (Or.inr (Or.inr (Or.inr rfl))) (f_X5_leadingArrivals_J47 N 12) (g_X5_leadingArrivals_J47 N 12 (Or.inr (Or.inr (Or.inr rfl)))) N x1 x2 σ))))), (fun _ z => absurd z List.not_mem_nil)⟩) 33 ?_ ?_ <;> rfl⟩
  cases hnnnn
