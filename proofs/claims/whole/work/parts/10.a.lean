def ft_X0 : List (Nat × FTE) := []
def lt_X0 : List (Nat × Int64) := []
theorem fc_X0 : ft_X0.all (fun e => fldchk RX0 e && shchk e) = true := by decide +kernel
theorem lc_X0 : lt_X0.all (ltchk RX0) = true := by decide +kernel
def T_X0_codeAt : List (Nat × Ent) := [(0, .lload_n 0, 1, []), (1, .bipush 6, 3, []), (3, .iload_n 2, 4, []), (4, .imul, 5, []), (5, .lushr, 6, []), (6, .l2i, 7, []), (7, .bipush 63, 9, []), (9, .iand, 10, []), (10, .ireturn, 11, [])]
theorem tc_X0_codeAt : T_X0_codeAt.all (chk cX0_codeAt) = true := by decide +kernel
def f_X0_codeAt (N : Nat) (a0 : Int64) (a2 : Int32) (σ : Wd) : Option (Int32 × Wd) :=
  some ((Int64.toInt32 ((Int64.toUInt64 a0 >>> (Int64.toUInt64 (Int32.toInt64 (6 * a2)) &&& Int64.toUInt64 63)).toInt64)) &&& 63, σ)
def a_X0_codeAt (N : Nat) : List Value → Wd → Option (Int32 × Wd) := fun as σ => kSJ as (fun b0 r0 => kSI r0 (fun b1 r1 => kS0 r1 (f_X0_codeAt N b0 b1 σ)))
def ct_X0_codeAt (N : Nat) : List (Nat × Cal) := []
theorem md_X0_codeAt (N : Nat) : MDOK T_X0_codeAt ft_X0 lt_X0 (ct_X0_codeAt N) cX0_codeAt RX0 1 := ⟨tc_X0_codeAt, fc_X0, lc_X0, (fun _ z => absurd z List.not_mem_nil)⟩
theorem C_X0_codeAt (N : Nat) : CTI 1 yX0_codeAt cX0_codeAt 3 (some .int) (a_X0_codeAt N) := by
  refine CTI.of (own := RX0) (by decide) rfl (fun as σ r h => ?_)
  unfold a_X0_codeAt at h
  obtain ⟨b0, r0, rfl, h⟩ := kSJ_s h
  obtain ⟨b1, r1, rfl, h⟩ := kSI_s h
  obtain ⟨rfl, h⟩ := kS0_s h
  exact ⟨Nat.le_of_ble_eq_true rfl, by refine GO.to (md_X0_codeAt N) (kl := []) ((fun _ z => absurd z List.not_mem_nil)) 14 ?_ ?_ <;> rfl⟩
def T_X0_kindAt : List (Nat × Ent) := [(0, .lload_n 0, 1, []), (1, .iload_n 2, 2, []), (2, .invokestatic 9, 5, []), (5, .iconst 3, 6, []), (6, .ishr, 7, []), (7, .ireturn, 8, [])]
theorem tc_X0_kindAt : T_X0_kindAt.all (chk cX0_kindAt) = true := by decide +kernel
def f_X0_kindAt (N : Nat) (a0 : Int64) (a2 : Int32) (σ : Wd) : Option (Int32 × Wd) :=
  (f_X0_codeAt N a0 a2 σ).bind fun p1 => some (p1.1 >>> (3 &&& 31), p1.2)
def a_X0_kindAt (N : Nat) : List Value → Wd → Option (Int32 × Wd) := fun as σ => kSJ as (fun b0 r0 => kSI r0 (fun b1 r1 => kS0 r1 (f_X0_kindAt N b0 b1 σ)))
theorem k_X0_9 : calchk RX0 9 2 0 yX0_codeAt cX0_codeAt 3 (some .int) = true := by decide +kernel
def ct_X0_kindAt (N : Nat) : List (Nat × Cal) := [(9, 2, 0, .inl (a_X0_codeAt N))]
theorem md_X0_kindAt (N : Nat) : MDOK T_X0_kindAt ft_X0 lt_X0 (ct_X0_kindAt N) cX0_kindAt RX0 2 := ⟨tc_X0_kindAt, fc_X0, lc_X0, List.forall_mem_cons.mpr ⟨⟨yX0_codeAt, cX0_codeAt, 3, (some .int), 1, k_X0_9, Nat.le_of_ble_eq_true rfl, C_X0_codeAt N⟩, (fun _ z => absurd z List.not_mem_nil)⟩⟩
theorem C_X0_kindAt (N : Nat) : CTI 2 yX0_kindAt cX0_kindAt 3 (some .int) (a_X0_kindAt N) := by
  refine CTI.of (own := RX0) (by decide) rfl (fun as σ r h => ?_)
  unfold a_X0_kindAt at h
  obtain ⟨b0, r0, rfl, h⟩ := kSJ_s h
  obtain ⟨b1, r1, rfl, h⟩ := kSI_s h
  obtain ⟨rfl, h⟩ := kS0_s h
  exact ⟨Nat.le_of_ble_eq_true rfl, by refine GO.to (md_X0_kindAt N) (kl := []) ((fun _ z => absurd z List.not_mem_nil)) 11 ?_ ?_ <;> rfl⟩
def T_X0_widthAt : List (Nat × Ent) := [(0, .lload_n 0, 1, []), (1, .iload_n 2, 2, []), (2, .invokestatic 9, 5, []), (5, .bipush 7, 7, []), (7, .iand, 8, []), (8, .ireturn, 9, [])]
theorem tc_X0_widthAt : T_X0_widthAt.all (chk cX0_widthAt) = true := by decide +kernel
def f_X0_widthAt (N : Nat) (a0 : Int64) (a2 : Int32) (σ : Wd) : Option (Int32 × Wd) :=
  (f_X0_codeAt N a0 a2 σ).bind fun p1 => some (p1.1 &&& 7, p1.2)
def a_X0_widthAt (N : Nat) : List Value → Wd → Option (Int32 × Wd) := fun as σ => kSJ as (fun b0 r0 => kSI r0 (fun b1 r1 => kS0 r1 (f_X0_widthAt N b0 b1 σ)))
def ct_X0_widthAt (N : Nat) : List (Nat × Cal) := [(9, 2, 0, .inl (a_X0_codeAt N))]
theorem md_X0_widthAt (N : Nat) : MDOK T_X0_widthAt ft_X0 lt_X0 (ct_X0_widthAt N) cX0_widthAt RX0 2 := ⟨tc_X0_widthAt, fc_X0, lc_X0, List.forall_mem_cons.mpr ⟨⟨yX0_codeAt, cX0_codeAt, 3, (some .int), 1, k_X0_9, Nat.le_of_ble_eq_true rfl, C_X0_codeAt N⟩, (fun _ z => absurd z List.not_mem_nil)⟩⟩
theorem C_X0_widthAt (N : Nat) : CTI 2 yX0_widthAt cX0_widthAt 3 (some .int) (a_X0_widthAt N) := by
  refine CTI.of (own := RX0) (by decide) rfl (fun as σ r h => ?_)
  unfold a_X0_widthAt at h
  obtain ⟨b0, r0, rfl, h⟩ := kSJ_s h
  obtain ⟨b1, r1, rfl, h⟩ := kSI_s h
  obtain ⟨rfl, h⟩ := kS0_s h
  exact ⟨Nat.le_of_ble_eq_true rfl, by refine GO.to (md_X0_widthAt N) (kl := []) ((fun _ z => absurd z List.not_mem_nil)) 11 ?_ ?_ <;> rfl⟩
def T_X0_amount : List (Nat × Ent) := [(0, .iconst 0, 1, []), (1, .istore_n 2, 2, []), (2, .iload_n 2, 3, []), (3, .bipush 8, 5, []), (5, .if_icmp .ge 17, 8, [22]), (8, .lload_n 0, 9, []), (9, .iload_n 2, 10, []), (10, .invokestatic 9, 13, []), (13, .ifCond .eq 9, 16, [22]), (16, .iinc 2 1, 19, []), (19, .goto (-17), 22, [2]), (22, .iload_n 2, 23, []), (23, .ireturn, 24, [])]
theorem tc_X0_amount : T_X0_amount.all (chk cX0_amount) = true := by decide +kernel
def f_X0_amount_L2 (N : Nat) (KO22 : Int32 → Wd → Option (Int32 × Wd)) : Nat → Int64 → Int32 → Wd → Option (Int32 × Wd)
  | 0, _, _, _ => none
  | n + 1, x0, x2, σ => if 8 ≤ x2 then (KO22 x2 σ) else ((f_X0_codeAt N x0 x2 σ).bind fun p1 => if p1.1 = 0 then (KO22 x2 p1.2) else (f_X0_amount_L2 N KO22 n x0 (x2 + 1) p1.2))
def f_X0_amount_J22 (N : Nat) (x2 : Int32) (σ : Wd) : Option (Int32 × Wd) :=
  some (x2, σ)
def f_X0_amount (N : Nat) (a0 : Int64) (σ : Wd) : Option (Int32 × Wd) :=
  f_X0_amount_L2 N (f_X0_amount_J22 N) N a0 0 σ
def a_X0_amount (N : Nat) : List Value → Wd → Option (Int32 × Wd) := fun as σ => kSJ as (fun b0 r0 => kS0 r0 (f_X0_amount N b0 σ))
def ct_X0_amount (N : Nat) : List (Nat × Cal) := [(9, 2, 0, .inl (a_X0_codeAt N))]
theorem md_X0_amount (N : Nat) : MDOK T_X0_amount ft_X0 lt_X0 (ct_X0_amount N) cX0_amount RX0 2 := ⟨tc_X0_amount, fc_X0, lc_X0, List.forall_mem_cons.mpr ⟨⟨yX0_codeAt, cX0_codeAt, 3, (some .int), 1, k_X0_9, Nat.le_of_ble_eq_true rfl, C_X0_codeAt N⟩, (fun _ z => absurd z List.not_mem_nil)⟩⟩
theorem g_X0_amount_L2 (N : Nat) (KO22 : Int32 → Wd → Option (Int32 × Wd)) (hKO22 : ∀ (x2 : Int32) (σ : Wd), GO cX0_amount RX0 3 2 sc0 rI nJ0 nV0 (KO22 x2 σ) 22 (mkp 0 3 [(2, .int x2)]) [] σ) : ∀ (n : Nat), ∀ (x0 : Int64) (x2 : Int32) (σ : Wd), GO cX0_amount RX0 3 2 sc0 rI nJ0 nV0 (f_X0_amount_L2 N KO22 n x0 x2 σ) 2 (mkp 0 3 [(0, .long x0), (2, .int x2)]) [] σ
  | 0, x0, x2, σ => GO.none
  | n + 1, x0, x2, σ => by
    exact (
      by refine GO.to (md_X0_amount N) (kl := [(22, fun vs st σ => kS0 st (kI 2 vs (fun x2 => KO22 x2 σ))), (2, fun vs st σ => kS0 st (kJ 0 vs (fun x0 => kI 2 vs (fun x2 => f_X0_amount_L2 N KO22 n x0 x2 σ))))]) (List.forall_mem_cons.mpr ⟨fun vs st σ => go_kS0 (go_kI (fun x2 h2 => GO.pat [(2, .int x2)] ⟨h2, trivial⟩ (hKO22 x2 σ))), List.forall_mem_cons.mpr ⟨fun vs st σ => go_kS0 (go_kJ (fun x0 h0 => go_kI (fun x2 h2 => GO.pat [(0, .long x0), (2, .int x2)] ⟨h0, h2, trivial⟩ (g_X0_amount_L2 N KO22 hKO22 n x0 x2 σ)))), (fun _ z => absurd z List.not_mem_nil)⟩⟩) 18 ?_ ?_ <;> rfl)
theorem g_X0_amount_J22 (N : Nat) (x2 : Int32) (σ : Wd) : GO cX0_amount RX0 3 2 sc0 rI nJ0 nV0 (f_X0_amount_J22 N x2 σ) 22 (mkp 0 3 [(2, .int x2)]) [] σ := by
  exact (
    by refine GO.to (md_X0_amount N) (kl := []) ((fun _ z => absurd z List.not_mem_nil)) 18 ?_ ?_ <;> rfl)
theorem C_X0_amount (N : Nat) : CTI 2 yX0_amount cX0_amount 3 (some .int) (a_X0_amount N) := by
  refine CTI.of (own := RX0) (by decide) rfl (fun as σ r h => ?_)
  unfold a_X0_amount at h
  obtain ⟨b0, r0, rfl, h⟩ := kSJ_s h
  obtain ⟨rfl, h⟩ := kS0_s h
  exact ⟨Nat.le_of_ble_eq_true rfl, by refine GO.to (md_X0_amount N) (kl := [(2, fun vs st σ => kS0 st (kJ 0 vs (fun x0 => kI 2 vs (fun x2 => f_X0_amount_L2 N (f_X0_amount_J22 N) N x0 x2 σ))))]) (List.forall_mem_cons.mpr ⟨fun vs st σ => go_kS0 (go_kJ (fun x0 h0 => go_kI (fun x2 h2 => GO.pat [(0, .long x0), (2, .int x2)] ⟨h0, h2, trivial⟩ (g_X0_amount_L2 N (f_X0_amount_J22 N) (g_X0_amount_J22 N) N x0 x2 σ)))), (fun _ z => absurd z List.not_mem_nil)⟩) 18 ?_ ?_ <;> rfl⟩
