def kbN0 : DN9 := ((0, fun _ => 0, fun _ => 0, fun _ => 0, 0, fun _ => 9, 40), (fun _ => 0, fun _ => 0, 0, 0), [], [], [], none)
def kbZ0 : SS9 := (kbN0, none, (0, fun _ => []), (0, fun _ => 0), [], (fun _ => -1, fun _ => 0, fun _ _ => 0))
theorem kb_t8 : ∀ t, t < 6 → dnI (kbz 8 0) t = -1 := by decide +kernel
theorem kb_t88 : ∀ t, t < 6 → dnI (kbz 88 0) t = -1 := by decide +kernel
theorem kb_t64 : ∀ j, j < 12 → ([108, 97, 116, 101, 115, 111, 111, 110, 98, 101, 97, 114] : List Nat)[j]?.map nI = some (dnI (kbz 64 0) j) := by decide +kernel
theorem kb_cI (xs : Nat → Int32) (L : Nat) : cI (kbσ xs L) kbZ0 := by
  refine ⟨⟨⟨(kbσ xs L).1 11 0, (kbσ xs L).1 12 0, (kbσ xs L).1 15 0, fun _ _ => rfl, fun _ _ => rfl, fun _ _ => rfl, rfl, Nat.zero_le _, rfl, rfl, rfl, rfl, fun p hp => absurd hp (Nat.not_lt_zero _), Or.inl ⟨rfl, rfl, rfl⟩⟩, ⟨((kbσ xs L).1 13 0, (kbσ xs L).1 14 0, 0, 0), ⟨rfl, rfl, rfl, rfl⟩, fun _ _ => rfl, fun _ _ => rfl, rfl⟩, ⟨⟨rfl, Nat.zero_le _, fun i q h => by cases h⟩, ⟨rfl, Nat.zero_le _, fun i q h => by cases h⟩, ⟨rfl, Nat.zero_le _, fun i q h => by cases h⟩⟩, rfl⟩, Or.inl ⟨rfl, rfl⟩, ⟨rfl, fun s9 hs => absurd hs (Nat.not_lt_zero _)⟩, ⟨rfl, fun j hj => absurd hj (Nat.not_lt_zero _)⟩, ⟨rfl, fun i b h => by cases h⟩, fun t ht => ⟨kb_t8 t ht, rfl, fun _ _ => rfl⟩, rfl, rfl, rfl, fun _ => rfl, fun _ _ _ => rfl⟩
theorem kb_mI (xs : Nat → Int32) (L : Nat) : mI (kbσ xs L) kbZ0 := by
  refine ⟨⟨⟨(kbσ xs L).1 51 0, (kbσ xs L).1 52 0, (kbσ xs L).1 55 0, fun _ _ => rfl, fun _ _ => rfl, fun _ _ => rfl, rfl, Nat.zero_le _, rfl, rfl, rfl, rfl, fun p hp => absurd hp (Nat.not_lt_zero _), Or.inl ⟨rfl, rfl, rfl⟩⟩, ⟨((kbσ xs L).1 53 0, (kbσ xs L).1 54 0, 0, 0), ⟨rfl, rfl, rfl, rfl⟩, fun _ _ => rfl, fun _ _ => rfl, rfl⟩, ⟨rfl, Nat.zero_le _, fun i q h => by cases h⟩, ⟨rfl, Nat.zero_le _, fun i q h => by cases h⟩, ⟨rfl, Nat.zero_le _, fun i q h => by cases h⟩, rfl⟩, Or.inl ⟨rfl, rfl⟩, ⟨rfl, fun s9 hs => absurd hs (Nat.not_lt_zero _)⟩, ⟨rfl, fun j hj => absurd hj (Nat.not_lt_zero _)⟩, ⟨rfl, fun i b h => by cases h⟩, fun t ht => ⟨kb_t88 t ht, rfl, fun _ _ => rfl⟩, fun j c9 h => ?_⟩
  have hj : j < 12 := (List.getElem?_eq_some_iff.mp h).1
  have e := kb_t64 j hj
  rw [h] at e
  exact (Option.some.inj e).symm
theorem kb_wS : wS kbZ0 := by
  refine ⟨⟨⟨Nat.zero_le _, fun p hp => absurd hp (Nat.not_lt_zero _), rfl, (fun s9 h => by cases h)⟩, ⟨fun j _ _ => ⟨rfl, rfl⟩, fun j _ _ => rfl, 0, rfl, by decide⟩, ⟨Nat.zero_le _, fun j _ => ⟨0, by decide, rfl⟩⟩, (fun q h => by cases h), (fun q h => by cases h), (fun q h => by cases h)⟩, (fun N h => by cases h), ⟨Nat.zero_le _, fun s9 hs => absurd hs (Nat.not_lt_zero _)⟩, ⟨Nat.zero_le _, fun j hj => absurd hj (Nat.not_lt_zero _)⟩, by decide, fun t _ => ⟨Nat.zero_le _, fun _ => rfl, Or.inl rfl⟩⟩
