section
/-! The world behind the constructors stands in the relation. -/
def d0 (k : Nat) : Nat := if k = 0 then 1 else if k = 3 then 3 else 2
theorem SRel_w0 : SRel w0 := by
  refine ⟨[], [], [], d0, fun _ => 0, fun _ => none, ⟨⟨Nat.zero_le _, fun x hx => absurd hx List.not_mem_nil⟩, ⟨Nat.zero_le _, fun p hp => absurd hp List.not_mem_nil, List.nodup_nil⟩, ⟨Nat.zero_le _, fun p hp => absurd hp List.not_mem_nil, List.nodup_nil⟩, ⟨by decide +kernel, fun _ _ => Nat.zero_le _⟩, fun _ _ => trivial⟩, ⟨⟨rfl, Nat.zero_le _, fun x hx => absurd hx List.not_mem_nil, fun i hi => absurd hi (Nat.not_lt_zero i)⟩, ⟨rfl, fun i p hp => by rw [List.getElem?_nil] at hp; cases hp⟩, ⟨rfl, fun i p hp => by rw [List.getElem?_nil] at hp; cases hp⟩, ⟨by decide +kernel, by decide +kernel⟩, ?_⟩, ⟨fun k _ => Or.inl rfl, Or.inl rfl, Or.inl rfl⟩, ⟨⟨rfl, fun i hi => absurd hi (Nat.not_lt_zero i)⟩, ⟨rfl, fun i p hp => by rw [List.getElem?_nil] at hp; cases hp⟩, ⟨rfl, fun i p hp => by rw [List.getElem?_nil] at hp; cases hp⟩, ⟨by decide +kernel, by decide +kernel⟩, ?_⟩⟩
  · show ∀ k, k < 4 → w0.1 (9 + k) 1 = -1
    decide +kernel
  · show ∀ k, k < 4 → w0.1 67 k = -1
    decide +kernel
theorem whole_start {p : Program} {e : Env} {s : State} {m : MethodId} {below : List Frame} {meth : Method} {c : Code} (l : Launch) (_hflags : l.flags = flags0) {b L : Nat} {xs : Nat → Int32} (hL : L ≤ 3072) (C0 : lw_At p s m meth c b L xs) : W p l e room_1 s m #[Value.ref b] below meth c s.heap [] 0 0 (lw_Z below #[Value.ref b] s) (entryFrame m ([Value.ref b] : List Value).toArray 4) := start_of 5000 (fun L xs hL => law_of 5000 (by decide) SRel_w0 L xs hL) l hL C0
end
